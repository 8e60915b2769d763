/** IN TRUTH in the terms, and promises 50 to 56, sentence by sentence: pass, taught, drawn, seed, image, back, status. */
final class TruthSentences {
    private TruthSentences() {
    }

    static void all(Sentences t) {
        t.of(Sentences.TERMS, "IN TRUTH: a YEAR;", TruthSentences::yearInTruth);
        t.of(Sentences.TERMS, "one is TAUGHT a SONG (has it for 0 years), if it is new or SUNG.",
            TruthSentences::taughtInTruth);
        t.of(Sentences.TERMS, "YEARS by draws, n: each: WORK is a DRAW below 10;", TruthSentences::workDrawn);
        t.of(Sentences.TERMS, "GRIEF of one of PEOPLE (a DRAW below how many) a DRAW below 10;", TruthSentences::griefDrawn);
        t.of(Sentences.TERMS, "then a YEAR;", TruthSentences::yearDrawn);
        t.of(Sentences.TERMS, "how many SONGS were found.", TruthSentences::foundByDraws);
        t.of(Sentences.TERMS, "A DRAW below n: SEED (1 at first) becomes SEED times 1103515245, and 12345 (an int, wrapping);",
            TruthSentences::seedWraps);
        t.of(Sentences.TERMS, "its upper 16 bits, no sign, modulo n.", TruthSentences::upperBits);
        t.of(50, "A YEAR in truth: YEAR then.", TruthSentences::pass);
        t.of(51, "One is TAUGHT a SONG in truth:", TruthSentences::taught);
        t.of(51, "how many HAVE it then.", TruthSentences::howManyHave);
        t.of(51, "BAD;", TruthSentences::taughtBad);
        t.of(51, "STUCK: it is LOST,", TruthSentences::taughtLost);
        t.of(51, "or he HAS it.", TruthSentences::taughtAgain);
        t.of(52, "YEARS by draws (n 1 to 60): how many SONGS were found.", TruthSentences::drawn);
        t.of(52, "BAD;", TruthSentences::drawnBad);
        t.of(52, "STUCK: nobody.", TruthSentences::drawnStuck);
        t.of(53, "SEED becomes v: the one ahead.", TruthSentences::seed);
        t.of(54, "All is kept,", TruthSentences::allIsKept);
        t.of(54, "but THE TAPE, SHELVES and REFUSALS: 1.", TruthSentences::notKept);
        t.of(55, "All is again as it was kept", due -> {
            again(due);
            cameAgain(due);
        });
        t.of(55, "(SHELVES with PEOPLE hold those of the same numbers, or NOTHING): 1.", TruthSentences::shelvesThen);
        t.of(55, "STUCK: nothing was.", TruthSentences::backStuck);
        t.of(56, "PEOPLE (0), SONGS (1), WORK (2), YEAR (3), how many SONGS are KNOWN (4), THE TAPE's size (5), SEED (6),",
            TruthSentences::status);
        t.of(56, "SHELVES that hold something (7);", TruthSentences::shelvesCounted);
        t.of(56, "12 to 16: REFUSALS -2 to -6.", TruthSentences::refusalsCounted);
        t.of(56, "NONE another what.", TruthSentences::noStatus);
    }

    private static void yearInTruth(Due due) {
        LostBeforeSung x = Made.usual();
        LostBeforeSung y = Made.usual();
        for (int year = 42; year <= 60; year++) {
            int n = year - 41;
            int[] then = {y.behind(0, n, 0), y.behind(1, n, 0), y.behind(0, n, 1), y.behind(1, n, 1)};
            due.be("YEAR", x.pass(), year);
            int[] now = {x.songOf(0, 3), x.songOf(1, 3), x.songOf(0, 2), x.songOf(1, 2)};
            for (int i = 0; i < now.length; i++) {
                due.be("as it was foreseen " + i, now[i], then[i]);
            }
        }
        due.be("WORK as it was", x.status(2), 6);
        due.be("SEED as it was", x.status(6), 99);
        due.be("GRIEF as it was", x.personOf(0, 3), 3);
    }

    private static void taughtInTruth(Due due) {
        LostBeforeSung x = Made.plain(2, 3);
        x.mark(1, 2, 2);
        x.mark(2, 2, 1);
        due.be("a new one", x.taught(1, 0), 1);
        due.be("for 0 years", x.years(1, 0), 0);
        due.be("new still", x.songOf(0, 2), 0);
        due.be("a SUNG one", x.taught(1, 1), 1);
        due.be("for 0 years", x.years(1, 1), 0);
        due.be("SUNG still", x.songOf(1, 2), 2);
        due.be("a LOST one", x.taught(1, 2), Made.STUCK);
        due.be("not had", x.years(1, 2), 100);
        due.be("nobody else", x.personOf(0, 6), 0);
        x.give(1, 0, 3);
        for (int years = 1; years <= 3; years++) {
            x.pass();
            due.be("from now on", x.years(1, 0), years);
        }
        x.pass();
        due.be("as ever", x.years(1, 0), 100);
    }

    private static int grown(int seed, int draws) {
        int s = seed;
        for (int i = 0; i < draws; i++) {
            s = (int) ((s & 0xffffffffL) * 1103515245L + 12345L);
        }
        return s;
    }

    private static int below(int seed, int n) {
        return (int) ((seed & 0xffffffffL) / 65536 % n);
    }

    private static final int[] SEEDS = {1, 0, -1, 99, Integer.MAX_VALUE, Integer.MIN_VALUE, 1103515245, -2000000000,
        12345, 777};

    private static void workDrawn(Due due) {
        for (int seed : SEEDS) {
            LostBeforeSung x = Made.plain(3, 1);
            x.seed(seed);
            x.drawn(1);
            due.be("WORK of " + seed, x.status(2), below(grown(seed, 1), 10));
            x.drawn(1);
            due.be("WORK of the second YEAR", x.status(2), below(grown(seed, 4), 10));
            x.drawn(5);
            due.be("WORK of the last YEAR", x.status(2), below(grown(seed, 19), 10));
        }
    }

    private static void griefDrawn(Due due) {
        for (int people = 1; people <= 8; people++) {
            for (int seed : SEEDS) {
                LostBeforeSung x = Made.plain(people, 0);
                for (int p = 0; p < people; p++) {
                    x.give(p, 1, 9 - p);
                }
                x.seed(seed);
                x.drawn(1);
                int who = below(grown(seed, 2), people);
                for (int p = 0; p < people; p++) {
                    int grief = p == who ? below(grown(seed, 3), 10) : 9 - p;
                    due.be("GRIEF of " + p + " of " + people + " by " + seed, x.personOf(p, 3), grief);
                }
            }
        }
    }

    private static void yearDrawn(Due due) {
        // WORK and GRIEF are drawn ahead of the YEAR: a worker's HOLD is by what they are then.
        for (int seed : SEEDS) {
            int work = below(grown(seed, 1), 10);
            int grief = below(grown(seed, 3), 10);
            for (int held = 0; held <= 18; held++) {
                LostBeforeSung x = new LostBeforeSung();
                x.person(2, 0, 9, 5);
                x.song(9, 0);
                x.knows(0, 0, held);
                x.seed(seed);
                x.drawn(1);
                int hold = Math.max(0, Math.max(0, 18 - grief) - work);
                due.be("held " + held + " by " + seed, x.years(0, 0), held + 1 <= hold ? held + 1 : 100);
            }
        }
        LostBeforeSung y = Made.plain(1, 0);
        y.drawn(60);
        due.be("YEAR", y.status(3), 60);
        y.tell(1, 998);
        y.drawn(2);
        due.be("999 at most", y.status(3), 999);
    }

    private static void foundByDraws(Due due) {
        LostBeforeSung x = Made.plain(1, 6);
        for (int s = 0; s < 6; s++) {
            x.mark(s, 1, s == 5 ? 3 : s);
            x.mark(s, 2, 1);
        }
        due.be("SOUND 1", x.drawn(1), 1);
        due.be("SOUNDS 2 and twice 3", x.drawn(2), 3);
        due.be("SOUNDS 4 and 0, and no more", x.drawn(60), 2);
        due.be("none", x.drawn(60), 0);
        due.be("all are SUNG", x.songs(3), 63);
        LostBeforeSung y = Made.plain(1, 6);
        due.be("those LOST on the way", y.drawn(6), 6);
        LostBeforeSung z = Made.plain(1, 6);
        due.be("not yet", z.drawn(4), 0);
        due.be("then all of them", z.drawn(1), 6);
    }

    private static void seedWraps(Due due) {
        due.be("at first", new LostBeforeSung().status(6), 1);
        LostBeforeSung x = Made.plain(1, 0);
        x.drawn(1);
        // 1 becomes 1103527590, -1770118847 and -1884924370 (reckoned apart, modulo 2 to the 32).
        due.be("three draws a YEAR", x.status(6), grown(1, 3));
        due.be("the first", grown(1, 1), 1103527590);
        for (int seed : SEEDS) {
            for (int n = 1; n <= 3; n++) {
                LostBeforeSung y = Made.plain(5, 0);
                y.seed(seed);
                y.drawn(n);
                due.be("SEED of " + seed + " behind " + n, y.status(6), grown(seed, 3 * n));
            }
        }
        LostBeforeSung z = Made.plain(1, 0);
        z.seed(0);
        z.drawn(60);
        due.be("0 behind 60", z.status(6), grown(0, 180));
    }

    private static void upperBits(Due due) {
        // Of 16 upper bits below 0 and above, by how many PEOPLE there are.
        boolean high = false;
        boolean low = false;
        for (int seed = -40; seed <= 40; seed++) {
            LostBeforeSung x = Made.plain(7, 0);
            x.seed(seed * 52711);
            x.drawn(1);
            int drawn = grown(seed * 52711, 1);
            high |= drawn < 0;
            low |= drawn >= 0;
            due.be("WORK of " + seed * 52711, x.status(2), below(drawn, 10));
        }
        due.yes("of both", high && low);
    }

    private static void pass(Due due) {
        Made.taken(due, "pass()", 42, x -> x.pass());
        Made.taken(due, "pass()", 1, x -> x.pass(), LostBeforeSung::new);
        LostBeforeSung x = Made.usual();
        x.tell(1, 998);
        due.be("the last", x.pass(), 999);
        due.be("no later one", x.pass(), 999);
        due.be("YEAR", x.status(3), 999);
    }

    private static void taught(Due due) {
        Made.taken(due, "taught(0, 1)", 2, x -> x.taught(0, 1));
        LostBeforeSung x = Made.usual();
        x.taught(0, 1);
        due.be("for 0 years", x.years(0, 1), 0);
        due.be("who had it has it as before", x.years(2, 1), 1);
        due.be("what he had he has as before", x.years(0, 0), 2);
        due.be("nobody else", x.years(1, 1), 100);
    }

    private static void howManyHave(Due due) {
        LostBeforeSung x = Made.plain(8, 6);
        for (int p = 7; p >= 0; p--) {
            due.be("the last SONG", x.taught(p, 5), 8 - p);
        }
        due.be("the first SONG", x.taught(7, 0), 1);
        due.be("who HAS it", x.songOf(0, 3), 128);
    }

    private static void taughtBad(Due due) {
        for (int v : Made.out(0, 2)) {
            Made.refused(due, "taught(" + v + ", 0)", Made.BAD, x -> x.taught(v, 0));
        }
        for (int v : Made.out(0, 1)) {
            Made.refused(due, "taught(0, " + v + ")", Made.BAD, x -> x.taught(0, v));
        }
        Made.refused(due, "nobody is there", Made.BAD, x -> x.taught(0, 0), () -> Made.plain(0, 6));
        Made.refused(due, "no SONGS", Made.BAD, x -> x.taught(0, 0), () -> Made.plain(8, 0));
    }

    private static void taughtLost(Due due) {
        Made.Making lost = () -> {
            LostBeforeSung x = Made.usual();
            x.mark(1, 2, 1);
            return x;
        };
        Made.refused(due, "a LOST one", Made.STUCK, x -> x.taught(0, 1), lost);
        Made.refused(due, "that he HAS", Made.STUCK, x -> x.taught(2, 1), lost);
        LostBeforeSung x = Made.plain(1, 1);
        x.pass();
        due.be("LOST in truth", x.taught(0, 0), Made.STUCK);
        for (int i = 0; i < 4; i++) {
            x.pass();
        }
        due.be("found", x.songOf(0, 2), 2);
        x.pass();
        due.be("forgotten, and SUNG", x.taught(0, 0), 1);
    }

    private static void taughtAgain(Due due) {
        Made.refused(due, "taught(0, 0)", Made.STUCK, x -> x.taught(0, 0));
        Made.refused(due, "taught(2, 1)", Made.STUCK, x -> x.taught(2, 1));
        LostBeforeSung x = Made.plain(1, 1);
        due.be("once", x.taught(0, 0), 1);
        due.be("twice", x.taught(0, 0), Made.STUCK);
        x.mark(0, 2, 2);
        due.be("a SUNG one", x.taught(0, 0), Made.STUCK);
        x.knows(0, 0, -1);
        due.be("not any more", x.taught(0, 0), 1);
    }

    private static void drawn(Due due) {
        Made.taken(due, "drawn(1)", 0, x -> x.drawn(1));
        Made.taken(due, "drawn(60)", 2, x -> x.drawn(60), () -> Made.plain(1, 2));
        // n YEARS at once are n times one.
        LostBeforeSung x = Made.usual();
        LostBeforeSung y = Made.usual();
        int found = 0;
        for (int i = 0; i < 60; i++) {
            found += y.drawn(1);
        }
        due.be("all that were found", x.drawn(60), found);
        for (int what = 0; what <= 7; what++) {
            due.be("status(" + what + ")", x.status(what), y.status(what));
        }
        for (int p = 0; p < 3; p++) {
            due.be("GRIEF of " + p, x.personOf(p, 3), y.personOf(p, 3));
            due.be("SONGS of " + p, x.personOf(p, 6), y.personOf(p, 6));
        }
        due.be("YEAR", x.status(3), 101);
    }

    private static void drawnBad(Due due) {
        for (int v : Made.out(1, 60)) {
            Made.refused(due, "drawn(" + v + ")", Made.BAD, x -> x.drawn(v));
            Made.refused(due, "ahead of STUCK", Made.BAD, x -> x.drawn(v), LostBeforeSung::new);
        }
        Made.refused(due, "drawn(-1)", Made.BAD, x -> x.drawn(-1));
    }

    private static void drawnStuck(Due due) {
        Made.refused(due, "nobody, 1", Made.STUCK, x -> x.drawn(1), LostBeforeSung::new);
        Made.refused(due, "nobody, 60", Made.STUCK, x -> x.drawn(60), () -> Made.plain(0, 6));
        Made.taken(due, "one", 0, x -> x.drawn(1), () -> Made.plain(1, 0));
    }

    private static void seed(Due due) {
        Made.taken(due, "seed(5)", 99, x -> x.seed(5));
        LostBeforeSung x = new LostBeforeSung();
        int ahead = 1;
        for (int v : SEEDS) {
            due.be("the one ahead", x.seed(v), ahead);
            due.be("SEED", x.status(6), v);
            ahead = v;
        }
        due.be("refusals", Made.refusals(x), 0);
    }

    /** Of all that can be kept, another thing than in usual(). */
    private static void changeAll(LostBeforeSung x) {
        x.person(2, 9, 9, 9);
        x.song(9, 0);
        x.give(0, 0, 8);
        x.give(1, 1, 8);
        x.give(2, 2, 0);
        x.give(0, 2, 1);
        x.mark(0, 0, 1);
        x.mark(0, 1, 1);
        x.mark(1, 2, 1);
        x.note(0, 7, 2);
        x.note(1, 0, 2);
        x.knows(0, 0, -1);
        x.knows(1, 1, 7);
        x.knows(2, 1, 8);
        x.seat(0, 1, 0);
        x.seat(1, 2, 1);
        x.seat(3, 0, 1);
        x.tell(0, 9);
        x.tell(1, 7);
        x.seed(-7);
    }

    private static void sameIsle(Due due, String when, LostBeforeSung x, LostBeforeSung y) {
        int[] status = {0, 1, 2, 3, 4, 6};
        for (int what : status) {
            due.be(when + "status(" + what + ")", x.status(what), y.status(what));
        }
        for (int p = 0; p < y.status(0); p++) {
            for (int what = 0; what < 7; what++) {
                due.be(when + "personOf(" + p + ", " + what + ")", x.personOf(p, what), y.personOf(p, what));
            }
            for (int s = 0; s < y.status(1); s++) {
                due.be(when + "years(" + p + ", " + s + ")", x.years(p, s), y.years(p, s));
            }
        }
        for (int s = 0; s < y.status(1); s++) {
            for (int what = 0; what < 5; what++) {
                due.be(when + "songOf(" + s + ", " + what + ")", x.songOf(s, what), y.songOf(s, what));
            }
        }
    }

    private static void allIsKept(Due due) {
        LostBeforeSung x = Made.usual();
        due.be("image()", x.image(), 1);
        Made.seenAlike(due, "now: ", x, Made.usual());
        changeAll(x);
        x.back();
        sameIsle(due, "back: ", x, Made.usual());
        x.pass();
        x.drawn(20);
        Made.isle(x, "work 0");
        x.back();
        sameIsle(due, "back from YEARS: ", x, Made.usual());
        LostBeforeSung y = Made.usual();
        changeAll(y);
        LostBeforeSung z = Made.usual();
        changeAll(z);
        due.be("another image instead", y.image(), 1);
        y.drawn(9);
        y.song(0, 0);
        y.back();
        sameIsle(due, "back to the later image: ", y, z);
        LostBeforeSung full = Made.fullOfAll();
        full.image();
        for (int p = 0; p < 8; p += 7) {
            full.give(p, 0, 0);
            full.give(p, 1, 9);
            full.give(p, 2, 0);
            full.seat(p, 3, 0);
            full.knows(p, 0, -1);
            full.knows(p, 5, 99);
        }
        for (int s = 0; s < 6; s += 5) {
            full.mark(s, 0, 1);
            full.mark(s, 1, 0);
            full.mark(s, 2, 0);
            full.note(s, 0, 0);
            full.note(s, 7, 0);
        }
        full.back();
        sameIsle(due, "back to all there can be: ", full, Made.fullOfAll());
    }

    /** What wasn't there at the image's time is new when it comes again, whatever it was. */
    private static void cameAgain(Due due) {
        LostBeforeSung x = new LostBeforeSung();
        x.image();
        Made.isle(x, "person 5 1 2 3;person 5 1 2 3;song 4 4;hums 0;has 0 0;beside 0 1");
        Made.tune(x, 0, "44444444");
        x.mark(0, 2, 2);
        x.back();
        Made.isle(x, "person 0 0 0 0;person 0 0 0 0;song 0 0");
        sameIsle(due, "came again: ", x, Made.plain(2, 1));
    }

    private static void notKept(Due due) {
        LostBeforeSung x = Made.usual();
        long refusals = Made.refusals(x);
        due.be("image()", x.image(), 1);
        due.be("no refusal", Made.refusals(x), refusals);
        x.feed('x');
        x.show(1, 0);
        x.row(0, 3, 1);
        x.set(0, 0, 5);
        x.show(4, -1);
        x.row(6, 4, 2);
        x.set(6, 1, 1);
        x.row(9, 0, 0);
        x.set(2, 0, 0);
        due.be("back()", x.back(), 1);
        due.be("THE TAPE", x.status(5), 14);
        due.be("a SHELF with a person", x.holds(1), 10);
        due.be("a SHELF with a ROW", x.holds(0), 3);
        due.be("its element", x.element(0, 0), 5);
        due.be("a SHELF with NOTHING", x.holds(4), -1);
        due.be("a new ROW", x.element(6, 1), 1);
        due.be("BAD", x.status(12), 2);
        due.be("NOTHING", x.status(14), 3);
        due.be("THE TAPE is read as it is", x.isle(), -33);
    }

    private static void again(Due due) {
        LostBeforeSung x = Made.usual();
        due.be("two PEOPLE and a SONG", x.back(), 1);
        int[][] people = {{5, 1, 2, 3, 0, 0, 1}, {0, 4, 5, 1, 0, 0, 0}};
        int[] song = {6, 4, 0, 1, 0};
        int[] status = {2, 1, 3, 40, 1, 13, 1, 3};
        for (int what = 0; what < 7; what++) {
            due.be("personOf(0, " + what + ")", x.personOf(0, what), people[0][what]);
            due.be("personOf(1, " + what + ")", x.personOf(1, what), people[1][what]);
        }
        for (int what = 0; what < 5; what++) {
            due.be("songOf(0, " + what + ")", x.songOf(0, what), song[what]);
        }
        for (int what = 0; what < 8; what++) {
            due.be("status(" + what + ")", x.status(what), status[what]);
        }
        due.be("years", x.years(0, 0), 3);
        due.be("the person 2 isn't there", x.personOf(2, 0), Made.BAD);
        due.be("the song 1 isn't there", x.songOf(1, 0), Made.BAD);
        x.knows(1, 0, 9);
        due.be("again and again", x.back(), 1);
        due.be("what was kept stays kept", x.years(1, 0), 100);
        due.be("who comes then is new", x.person(0, 0, 0, 0), 2);
        int[] fresh = {0, 0, 0, 0, 0, 0, 0};
        for (int what = 0; what < 7; what++) {
            due.be("personOf(2, " + what + ")", x.personOf(2, what), fresh[what]);
        }
        due.be("what comes then is new", x.song(0, 0), 1);
        for (int what = 0; what < 5; what++) {
            due.be("songOf(1, " + what + ")", x.songOf(1, what), 0);
        }
        LostBeforeSung y = new LostBeforeSung();
        y.image();
        for (int p = 0; p < 8; p++) {
            y.person(0, 0, 0, 0);
        }
        for (int s = 0; s < 6; s++) {
            y.song(0, 0);
        }
        due.be("back to nobody", y.back(), 1);
        due.be("nobody", y.status(0), 0);
        due.be("no SONGS", y.status(1), 0);
        due.be("room again", y.person(0, 0, 0, 0) + y.song(0, 0), 0);
    }

    private static void shelvesThen(Due due) {
        LostBeforeSung x = Made.plain(3, 0);
        x.give(2, 0, 7);
        x.image();
        for (int p = 3; p < 8; p++) {
            x.person(0, 0, 9, 0);
        }
        x.give(2, 0, 1);
        for (int s = 0; s < 8; s++) {
            x.show(s, 7 - s);
        }
        due.be("back()", x.back(), 1);
        for (int s = 0; s < 8; s++) {
            due.be("holds(" + s + ")", x.holds(s), s < 5 ? -1 : 17 - s);
        }
        due.be("SHELVES that hold something", x.status(7), 3);
        due.be("those of the same numbers, as they were", x.says(5, 0), 7);
        due.be("NOTHING", x.says(4, 0), Made.NOTHING);
        x.person(0, 0, 0, 0);
        due.be("NOTHING, though he is there again", x.holds(4), -1);
        for (int people = 0; people <= 8; people++) {
            LostBeforeSung w = Made.plain(people, 0);
            w.image();
            for (int p = people; p < 8; p++) {
                w.person(0, 0, 0, 0);
            }
            for (int s = 0; s < 8; s++) {
                w.show(s, s);
            }
            w.back();
            for (int s = 0; s < 8; s++) {
                due.be("back to " + people + ", holds(" + s + ")", w.holds(s), s < people ? 10 + s : -1);
            }
        }
        LostBeforeSung y = new LostBeforeSung();
        y.image();
        y.person(0, 0, 0, 0);
        y.show(0, 0);
        y.row(7, 2, 40);
        y.set(7, 39, 5);
        due.be("back to nobody", y.back(), 1);
        due.be("NOTHING", y.holds(0), -1);
        due.be("a ROW stays", y.holds(7), 2);
        due.be("a ROW stays", y.element(7, 39), 5);
        due.be("SHELVES that hold something", y.status(7), 1);
        // Who is kept but not there now can't be on a SHELF: NOTHING stays NOTHING.
        LostBeforeSung z = Made.plain(8, 0);
        z.show(3, 7);
        z.image();
        z.show(3, -1);
        z.show(4, 7);
        z.back();
        due.be("NOTHING stays", z.holds(3), -1);
        due.be("the last stays", z.holds(4), 17);
    }

    private static void backStuck(Due due) {
        Made.refused(due, "nothing was kept", Made.STUCK, x -> x.back(), LostBeforeSung::new);
        Made.refused(due, "nothing was kept", Made.STUCK, x -> x.back(), () -> Made.plain(8, 6));
        LostBeforeSung x = new LostBeforeSung();
        due.be("nothing yet", x.back(), Made.STUCK);
        x.image();
        due.be("nobody, but that was kept", x.back(), 1);
        due.be("again", x.back(), 1);
        due.be("STUCK", x.status(15), 1);
    }

    private static void status(Due due) {
        int[] usual = {3, 2, 6, 41, 2, 13, 99};
        int[] first = {0, 0, 3, 0, 0, 0, 1};
        for (int k = 0; k < 7; k++) {
            int what = k;
            Made.asked(due, "status(" + what + ")", usual[what], x -> x.status(what));
            Made.asked(due, "status(" + what + ") at first", first[what], x -> x.status(what), LostBeforeSung::new);
        }
        LostBeforeSung x = Made.plain(8, 6);
        x.tell(0, 9);
        x.tell(1, 999);
        x.seed(Integer.MIN_VALUE);
        for (int s = 0; s < 6; s++) {
            x.knows(7, s, 0);
            x.knows(0, s, 0);
        }
        for (int i = 0; i < 250; i++) {
            x.feed(0);
        }
        int[] most = {8, 6, 9, 999, 6, 250, Integer.MIN_VALUE};
        for (int what = 0; what < 7; what++) {
            due.be("the most, status(" + what + ")", x.status(what), most[what]);
        }
    }

    private static void shelvesCounted(Due due) {
        Made.asked(due, "status(7)", 4, x -> x.status(7));
        Made.asked(due, "status(7) at first", 0, x -> x.status(7), LostBeforeSung::new);
        LostBeforeSung x = Made.plain(1, 0);
        for (int s = 0; s < 8; s++) {
            if (s % 2 == 0) {
                x.row(s, 0, 0);
            } else {
                x.show(s, 0);
            }
            due.be("so many", x.status(7), s + 1);
        }
        x.row(7, 4, 40);
        x.show(6, 0);
        due.be("another thing instead", x.status(7), 8);
        for (int s = 7; s >= 0; s--) {
            x.show(s, -1);
            due.be("so many left", x.status(7), s);
        }
    }

    private static void refusalsCounted(Due due) {
        LostBeforeSung x = Made.plain(8, 6);
        x.show(0, 0);
        int[] often = {3, 1, 4, 2, 5};
        for (int i = 0; i < often[0]; i++) {
            due.be("BAD", x.row(8, 0, 0), -2);
        }
        for (int i = 0; i < often[1]; i++) {
            due.be("OTHER", x.set(0, 0, 0), -3);
        }
        for (int i = 0; i < often[2]; i++) {
            due.be("NOTHING", x.set(1, 0, 0), -4);
        }
        for (int i = 0; i < often[3]; i++) {
            due.be("STUCK", x.back(), -5);
        }
        for (int i = 0; i < often[4]; i++) {
            due.be("FULL", i % 2 == 0 ? x.person(0, 0, 0, 0) : x.song(0, 0), -6);
        }
        for (int i = 0; i < 5; i++) {
            due.be("status(" + (12 + i) + ")", x.status(12 + i), often[i]);
        }
        LostBeforeSung y = new LostBeforeSung();
        for (int i = 0; i < 511; i++) {
            y.drawn(i % 2);
        }
        due.be("as many as can be", y.status(12), 256);
    }

    private static void noStatus(Due due) {
        for (int v : new int[] {-1, 8, 9, 10, 11, 17, 18, 100, Made.LEAST, Made.MOST, Made.LEAST + 11, Made.LEAST + 12,
            Made.LEAST + 13, -2, -6, -12}) {
            Made.asked(due, "status(" + v + ")", -1, x -> x.status(v));
        }
    }
}
