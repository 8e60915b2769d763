/** The first part of the terms but THE TAPE, and promises 9 to 16, sentence by sentence: what an isle is made of. */
final class IsleSentences {
    private IsleSentences() {
    }

    static void all(Sentences t) {
        t.of(Sentences.TERMS, "PEOPLE have numbers, 0 on, 8 at most", IsleSentences::eightPeople);
        t.of(Sentences.TERMS, "each of a KIND: 0 ISLANDER; 1 DRINKER, 2 WORKER, 5 CHILD, each under ISLANDER; "
            + "3 SAILOR, under DRINKER; 4 MAKER, under WORKER", IsleSentences::kinds);
        t.of(Sentences.TERMS, "a (0 to 9)", IsleSentences::limitsOfA);
        t.of(Sentences.TERMS, "MEMORY (0 to 9)", IsleSentences::limitsOfMemory);
        t.of(Sentences.TERMS, ", GRIEF (0 to 9),", IsleSentences::limitsOfGrief);
        t.of(Sentences.TERMS, "whether one HUMS (not at first).", IsleSentences::humsNotAtFirst);
        t.of(Sentences.TERMS, "Two may sit BESIDE each other (not at first).", IsleSentences::besideNotAtFirst);
        t.of(Sentences.TERMS, "SONGS have numbers, 0 on, 6 at most", IsleSentences::sixSongs);
        t.of(Sentences.TERMS, "HARD to forget (0 to 9)", IsleSentences::limitsOfHard);
        t.of(Sentences.TERMS, "SOUND (0 to 4) that calls it up", IsleSentences::limitsOfSound);
        t.of(Sentences.TERMS, "TUNE (8 notes, 0 to 4 each; all 0 at first)", IsleSentences::tuneAtFirst);
        t.of(Sentences.TERMS, "STATE: 0 new, 1 LOST, 2 SUNG (0 at first).", IsleSentences::stateAtFirst);
        t.of(Sentences.TERMS, "One HAS a SONG for so many years (0 to 99), or not (not at first).",
            IsleSentences::hasNotAtFirst);
        t.of(Sentences.TERMS, "WORK (0 to 9; 3 at first)", IsleSentences::workAtFirst);
        t.of(Sentences.TERMS, "YEAR (0 to 999; 0 at first).", IsleSentences::yearAtFirst);
        t.of(9, "One of the PEOPLE: the number.", IsleSentences::personMade);
        t.of(9, "BAD;", IsleSentences::personBad);
        t.of(9, "FULL.", IsleSentences::personFull);
        t.of(10, "A SONG: the number.", IsleSentences::songMade);
        t.of(10, "BAD;", IsleSentences::songBad);
        t.of(10, "FULL.", IsleSentences::songFull);
        t.of(11, "MEMORY (what 0), GRIEF (1), whether he HUMS (2; 1, 0) of one becomes v: what it was.",
            IsleSentences::given);
        t.of(11, "BAD.", IsleSentences::giveBad);
        t.of(12, "HARD (what 0), SOUND (1), STATE (2; 0 to 2) of a SONG becomes v: what it was.", IsleSentences::marked);
        t.of(12, "BAD.", IsleSentences::markBad);
        t.of(13, "Note i (0 to 7) of a TUNE becomes v (0 to 4): what it was.", IsleSentences::noted);
        t.of(13, "BAD.", IsleSentences::noteBad);
        t.of(14, "One HAS a SONG for v years (0 to 99; NONE: not) from now on: what it was (NONE).",
            IsleSentences::known);
        t.of(14, "BAD.", IsleSentences::knowsBad);
        t.of(15, "Two sit BESIDE each other, or not (is 1, 0): what it was.", IsleSentences::seated);
        t.of(15, "BAD: also the same.", IsleSentences::seatBad);
        t.of(16, "WORK (what 0), YEAR (1) becomes v: what it was.", IsleSentences::told);
        t.of(16, "BAD.", IsleSentences::tellBad);
    }

    private static void eightPeople(Due due) {
        LostBeforeSung x = new LostBeforeSung();
        due.be("none yet", x.personOf(0, 0), Made.BAD);
        for (int p = 0; p < 8; p++) {
            due.be("the number", x.person(0, 0, 0, 0), p);
            due.be("is there", x.personOf(p, 0), 0);
            due.be("the next isn't", x.personOf(p + 1, 0), Made.BAD);
            due.be("how many", x.status(0), p + 1);
        }
        due.be("a ninth", x.person(0, 0, 0, 0), Made.FULL);
        due.be("how many", x.status(0), 8);
    }

    private static void kinds(Due due) {
        LostBeforeSung x = new LostBeforeSung();
        for (int kind = 0; kind < 6; kind++) {
            due.be("KIND " + kind, x.person(kind, 0, 0, 0), kind);
            due.be("KIND " + kind, x.personOf(kind, 0), kind);
        }
        due.be("KIND 6", x.person(6, 0, 0, 0), Made.BAD);
        due.be("KIND -1", x.person(-1, 0, 0, 0), Made.BAD);
        int[] above = {0, 0, 0, 1, 2, 0};
        for (int kind = 0; kind < 6; kind++) {
            x.show(0, kind);
            for (int as = 0; as < 6; as++) {
                boolean under = as == kind || as == above[kind] || as == 0;
                due.yes("KIND " + kind + " as " + as, (x.says(0, as) != Made.OTHER) == under);
            }
        }
    }

    private static void limitsOfA(Due due) {
        for (int v = 0; v <= 9; v++) {
            LostBeforeSung x = new LostBeforeSung();
            due.be("a " + v, x.person(1, v, 0, 0), 0);
            due.be("a " + v, x.personOf(0, 1), v);
        }
        for (int v : Made.out(0, 9)) {
            Made.refused(due, "person(1, " + v + ", 0, 0)", Made.BAD, x -> x.person(1, v, 0, 0));
        }
    }

    private static void limitsOfMemory(Due due) {
        for (int v = 0; v <= 9; v++) {
            LostBeforeSung x = Made.plain(1, 0);
            due.be("MEMORY " + v, x.person(1, 0, v, 0), 1);
            due.be("MEMORY " + v, x.personOf(1, 2), v);
            due.be("MEMORY becomes " + v, x.give(0, 0, v), 0);
            due.be("MEMORY becomes " + v, x.personOf(0, 2), v);
        }
        for (int v : Made.out(0, 9)) {
            Made.refused(due, "person(1, 0, " + v + ", 0)", Made.BAD, x -> x.person(1, 0, v, 0));
            Made.refused(due, "give(0, 0, " + v + ")", Made.BAD, x -> x.give(0, 0, v));
        }
    }

    private static void limitsOfGrief(Due due) {
        for (int v = 0; v <= 9; v++) {
            LostBeforeSung x = Made.plain(1, 0);
            due.be("GRIEF " + v, x.person(1, 0, 0, v), 1);
            due.be("GRIEF " + v, x.personOf(1, 3), v);
            due.be("GRIEF becomes " + v, x.give(0, 1, v), 0);
            due.be("GRIEF becomes " + v, x.personOf(0, 3), v);
        }
        for (int v : Made.out(0, 9)) {
            Made.refused(due, "person(1, 0, 0, " + v + ")", Made.BAD, x -> x.person(1, 0, 0, v));
            Made.refused(due, "give(0, 1, " + v + ")", Made.BAD, x -> x.give(0, 1, v));
        }
    }

    private static void humsNotAtFirst(Due due) {
        LostBeforeSung x = new LostBeforeSung();
        for (int p = 0; p < 8; p++) {
            x.person(p % 6, 9, 9, 9);
            due.be("HUMS " + p, x.personOf(p, 4), 0);
            x.give(p, 2, 1);
        }
        LostBeforeSung y = Made.plain(1, 0);
        y.image();
        y.person(0, 0, 0, 0);
        y.give(1, 2, 1);
        y.back();
        y.person(0, 0, 0, 0);
        due.be("HUMS, who comes where a hummer was", y.personOf(1, 4), 0);
    }

    private static void besideNotAtFirst(Due due) {
        LostBeforeSung x = new LostBeforeSung();
        for (int p = 0; p < 8; p++) {
            x.person(0, 0, 0, 0);
            due.be("BESIDE " + p, x.personOf(p, 5), 0);
            for (int other = 0; other < p; other++) {
                x.seat(p, other, 1);
            }
        }
        for (int p = 0; p < 8; p++) {
            due.be("each of all others, " + p, x.personOf(p, 5), 255 - (1 << p));
        }
        LostBeforeSung y = Made.plain(1, 0);
        y.image();
        y.person(0, 0, 0, 0);
        y.seat(0, 1, 1);
        y.back();
        y.person(0, 0, 0, 0);
        due.be("BESIDE, who comes where another was", y.personOf(1, 5), 0);
        due.be("BESIDE, who was there", y.personOf(0, 5), 0);
    }

    private static void sixSongs(Due due) {
        LostBeforeSung x = new LostBeforeSung();
        due.be("none yet", x.songOf(0, 0), Made.BAD);
        for (int s = 0; s < 6; s++) {
            due.be("the number", x.song(0, 0), s);
            due.be("is there", x.songOf(s, 0), 0);
            due.be("the next isn't", x.songOf(s + 1, 0), Made.BAD);
            due.be("how many", x.status(1), s + 1);
        }
        due.be("a seventh", x.song(0, 0), Made.FULL);
        due.be("how many", x.status(1), 6);
    }

    private static void limitsOfHard(Due due) {
        for (int v = 0; v <= 9; v++) {
            LostBeforeSung x = Made.plain(1, 1);
            due.be("HARD " + v, x.song(v, 0), 1);
            due.be("HARD " + v, x.songOf(1, 0), v);
            due.be("HARD becomes " + v, x.mark(0, 0, v), 0);
            due.be("HARD becomes " + v, x.songOf(0, 0), v);
            due.be("harder to forget", x.hold(0, 0), v);
        }
        for (int v : Made.out(0, 9)) {
            Made.refused(due, "song(" + v + ", 0)", Made.BAD, x -> x.song(v, 0));
            Made.refused(due, "mark(0, 0, " + v + ")", Made.BAD, x -> x.mark(0, 0, v));
        }
    }

    private static void limitsOfSound(Due due) {
        for (int v = 0; v <= 4; v++) {
            LostBeforeSung x = Made.plain(1, 1);
            due.be("SOUND " + v, x.song(0, v), 1);
            due.be("SOUND " + v, x.songOf(1, 1), v);
            due.be("SOUND becomes " + v, x.mark(0, 1, v), 0);
            due.be("SOUND becomes " + v, x.songOf(0, 1), v);
            x.mark(1, 2, 1);
            due.be("calls it up", x.sungIn(1), v == 0 ? 5 : v);
        }
        for (int v : Made.out(0, 4)) {
            Made.refused(due, "song(0, " + v + ")", Made.BAD, x -> x.song(0, v));
            Made.refused(due, "mark(0, 1, " + v + ")", Made.BAD, x -> x.mark(0, 1, v));
        }
    }

    private static void tuneAtFirst(Due due) {
        LostBeforeSung x = new LostBeforeSung();
        for (int s = 0; s < 6; s++) {
            x.song(9, 4);
            due.be("TUNE of " + s, x.songOf(s, 4), 0);
            Made.tune(x, s, "44444444");
            due.be("TUNE of " + s, x.songOf(s, 4), 44444444);
        }
        LostBeforeSung y = new LostBeforeSung();
        y.image();
        y.song(0, 0);
        Made.tune(y, 0, "12341234");
        y.back();
        y.song(0, 0);
        due.be("TUNE of what comes where another was", y.songOf(0, 4), 0);
    }

    private static void stateAtFirst(Due due) {
        LostBeforeSung x = new LostBeforeSung();
        for (int s = 0; s < 6; s++) {
            x.song(9, 4);
            due.be("STATE of " + s, x.songOf(s, 2), 0);
            x.mark(s, 2, 1 + s % 2);
        }
        for (int s = 0; s < 6; s++) {
            due.be("STATE of " + s, x.songOf(s, 2), 1 + s % 2);
        }
        due.be("LOST", x.songs(2), 21);
        due.be("SUNG", x.songs(3), 42);
        x.image();
        due.be("new again", x.mark(3, 2, 0), 2);
        due.be("new again", x.songs(1), 8);
        for (int v : Made.out(0, 2)) {
            Made.refused(due, "mark(0, 2, " + v + ")", Made.BAD, y -> y.mark(0, 2, v));
        }
    }

    private static void hasNotAtFirst(Due due) {
        LostBeforeSung x = Made.plain(7, 5);
        for (int p = 0; p < 7; p++) {
            for (int s = 0; s < 5; s++) {
                due.be("at first", x.years(p, s), 100);
                due.be("99 years", x.knows(p, s, 99), -1);
                due.be("0 years", x.knows(p, s, 0), 99);
            }
        }
        x.person(0, 0, 0, 0);
        x.song(0, 0);
        due.be("who comes later", x.personOf(7, 6), 0);
        due.be("what comes later", x.songOf(5, 3), 0);
        due.be("what comes later", x.knows(7, 5, 1), -1);
        for (int v : Made.out(-1, 99)) {
            Made.refused(due, "knows(0, 0, " + v + ")", Made.BAD, y -> y.knows(0, 0, v));
        }
        LostBeforeSung y = Made.plain(1, 1);
        y.image();
        y.person(0, 0, 0, 0);
        y.song(0, 0);
        y.knows(0, 1, 5);
        y.knows(1, 0, 5);
        y.back();
        y.person(0, 0, 0, 0);
        y.song(0, 0);
        due.be("who comes where another was", y.personOf(1, 6), 0);
        due.be("what comes where another was", y.songOf(1, 3), 0);
    }

    private static void workAtFirst(Due due) {
        LostBeforeSung x = new LostBeforeSung();
        due.be("at first", x.status(2), 3);
        for (int v = 0; v <= 9; v++) {
            x.tell(0, v);
            due.be("WORK " + v, x.status(2), v);
        }
        for (int v : Made.out(0, 9)) {
            Made.refused(due, "tell(0, " + v + ")", Made.BAD, y -> y.tell(0, v));
        }
    }

    private static void yearAtFirst(Due due) {
        LostBeforeSung x = new LostBeforeSung();
        due.be("at first", x.status(3), 0);
        due.be("the last", x.tell(1, 999), 0);
        due.be("the last", x.status(3), 999);
        due.be("0 again", x.tell(1, 0), 999);
        due.be("0 again", x.status(3), 0);
        for (int v : Made.out(0, 999)) {
            Made.refused(due, "tell(1, " + v + ")", Made.BAD, y -> y.tell(1, v));
        }
    }

    private static void personMade(Due due) {
        LostBeforeSung x = new LostBeforeSung();
        int[][] made = {{0, 0, 0, 0}, {5, 9, 9, 9}, {1, 2, 3, 4}, {4, 3, 2, 1}, {2, 0, 9, 0}, {3, 9, 0, 9}, {0, 0, 0, 9},
            {5, 0, 9, 0}};
        for (int p = 0; p < 8; p++) {
            due.be("the number", x.person(made[p][0], made[p][1], made[p][2], made[p][3]), p);
        }
        for (int p = 0; p < 8; p++) {
            for (int what = 0; what < 4; what++) {
                due.be("personOf(" + p + ", " + what + ")", x.personOf(p, what), made[p][what]);
            }
        }
        due.be("refusals", Made.refusals(x), 0);
        for (int people = 1; people < 8; people++) {
            for (int v = 0; v < 6; v++) {
                LostBeforeSung y = Made.varied(people, 6);
                due.be("the next one", y.person(v, 9 - v, 2 + v, v), people);
                Made.eachAlike(due, "all others stay as they are: ", y, Made.varied(people, 6));
                due.be("WORK", y.status(2), 9);
                due.be("YEAR", y.status(3), 777);
                due.be("SEED", y.status(6), -1);
            }
        }
    }

    private static void personBad(Due due) {
        Made.taken(due, "person(0, 0, 0, 0)", 3, x -> x.person(0, 0, 0, 0));
        Made.taken(due, "person(5, 9, 9, 9)", 3, x -> x.person(5, 9, 9, 9));
        for (int v : Made.out(0, 5)) {
            Made.refused(due, "person(" + v + ", 0, 0, 0)", Made.BAD, x -> x.person(v, 0, 0, 0));
        }
        for (int v : Made.out(0, 9)) {
            Made.refused(due, "person(0, " + v + ", 0, 0)", Made.BAD, x -> x.person(0, v, 0, 0));
            Made.refused(due, "person(0, 0, " + v + ", 0)", Made.BAD, x -> x.person(0, 0, v, 0));
            Made.refused(due, "person(0, 0, 0, " + v + ")", Made.BAD, x -> x.person(0, 0, 0, v));
        }
    }

    private static void personFull(Due due) {
        Made.taken(due, "the eighth", 7, x -> x.person(0, 0, 0, 0), () -> Made.plain(7, 1));
        Made.refused(due, "the ninth", Made.FULL, x -> x.person(0, 0, 0, 0), Made::fullOfPeople);
        Made.refused(due, "BAD ahead of FULL", Made.BAD, x -> x.person(6, 0, 0, 0), Made::fullOfPeople);
        Made.refused(due, "BAD ahead of FULL", Made.BAD, x -> x.person(0, 10, 0, 0), Made::fullOfPeople);
        Made.refused(due, "BAD ahead of FULL", Made.BAD, x -> x.person(0, 0, -1, 0), Made::fullOfPeople);
        Made.refused(due, "BAD ahead of FULL", Made.BAD, x -> x.person(0, 0, 0, 10), Made::fullOfPeople);
    }

    private static void songMade(Due due) {
        LostBeforeSung x = new LostBeforeSung();
        int[][] made = {{0, 0}, {9, 4}, {0, 4}, {9, 0}, {1, 2}, {2, 1}};
        for (int s = 0; s < 6; s++) {
            due.be("the number", x.song(made[s][0], made[s][1]), s);
        }
        for (int s = 0; s < 6; s++) {
            due.be("HARD of " + s, x.songOf(s, 0), made[s][0]);
            due.be("SOUND of " + s, x.songOf(s, 1), made[s][1]);
        }
        due.be("refusals", Made.refusals(x), 0);
        for (int songs = 1; songs < 6; songs++) {
            for (int v = 0; v < 5; v++) {
                LostBeforeSung y = Made.varied(8, songs);
                due.be("the next one", y.song(v + 5, v), songs);
                Made.eachAlike(due, "all others stay as they are: ", y, Made.varied(8, songs));
                due.be("WORK", y.status(2), 9);
                due.be("YEAR", y.status(3), 777);
                due.be("SEED", y.status(6), -1);
            }
        }
    }

    private static void songBad(Due due) {
        Made.taken(due, "song(0, 0)", 2, x -> x.song(0, 0));
        Made.taken(due, "song(9, 4)", 2, x -> x.song(9, 4));
        for (int v : Made.out(0, 9)) {
            Made.refused(due, "song(" + v + ", 0)", Made.BAD, x -> x.song(v, 0));
        }
        for (int v : Made.out(0, 4)) {
            Made.refused(due, "song(0, " + v + ")", Made.BAD, x -> x.song(0, v));
        }
    }

    private static void songFull(Due due) {
        Made.taken(due, "the sixth", 5, x -> x.song(0, 0), () -> Made.plain(1, 5));
        Made.refused(due, "the seventh", Made.FULL, x -> x.song(0, 0), Made::fullOfSongs);
        Made.refused(due, "BAD ahead of FULL", Made.BAD, x -> x.song(10, 0), Made::fullOfSongs);
        Made.refused(due, "BAD ahead of FULL", Made.BAD, x -> x.song(0, -1), Made::fullOfSongs);
    }

    private static void given(Due due) {
        LostBeforeSung x = new LostBeforeSung();
        for (int p = 0; p < 8; p++) {
            x.person(0, 1, 2, 3);
        }
        for (int p = 0; p < 8; p += 7) {
            due.be("MEMORY", x.give(p, 0, 9), 2);
            due.be("MEMORY", x.give(p, 0, 0), 9);
            due.be("GRIEF", x.give(p, 1, 9), 3);
            due.be("GRIEF", x.give(p, 1, 0), 9);
            due.be("HUMS", x.give(p, 2, 1), 0);
            due.be("HUMS", x.give(p, 2, 1), 1);
            due.be("HUMS", x.personOf(p, 4), 1);
            due.be("no more", x.give(p, 2, 0), 1);
            due.be("no more", x.give(p, 2, 0), 0);
            due.be("no more", x.personOf(p, 4), 0);
            due.be("MEMORY", x.personOf(p, 2), 0);
            due.be("GRIEF", x.personOf(p, 3), 0);
            due.be("a is as it was", x.personOf(p, 1), 1);
        }
        due.be("another's MEMORY", x.personOf(6, 2), 2);
        due.be("another's GRIEF", x.personOf(6, 3), 3);
        due.be("another HUMS", x.personOf(6, 4), 0);
        due.be("refusals", Made.refusals(x), 0);
    }

    private static void giveBad(Due due) {
        for (int v : Made.out(0, 2)) {
            Made.refused(due, "give(" + v + ", 0, 0)", Made.BAD, x -> x.give(v, 0, 0));
            Made.refused(due, "give(0, " + v + ", 0)", Made.BAD, x -> x.give(0, v, 0));
        }
        for (int v : Made.out(0, 9)) {
            Made.refused(due, "give(0, 0, " + v + ")", Made.BAD, x -> x.give(0, 0, v));
            Made.refused(due, "give(0, 1, " + v + ")", Made.BAD, x -> x.give(0, 1, v));
        }
        for (int v : Made.out(0, 1)) {
            Made.refused(due, "give(0, 2, " + v + ")", Made.BAD, x -> x.give(0, 2, v));
        }
        Made.refused(due, "nobody is there", Made.BAD, x -> x.give(0, 0, 0), LostBeforeSung::new);
        Made.refused(due, "no ninth", Made.BAD, x -> x.give(8, 0, 0), Made::fullOfPeople);
    }

    private static void marked(Due due) {
        LostBeforeSung x = new LostBeforeSung();
        for (int s = 0; s < 6; s++) {
            x.song(1, 2);
        }
        for (int s = 0; s < 6; s += 5) {
            due.be("HARD", x.mark(s, 0, 9), 1);
            due.be("HARD", x.mark(s, 0, 0), 9);
            due.be("SOUND", x.mark(s, 1, 4), 2);
            due.be("SOUND", x.mark(s, 1, 0), 4);
            due.be("STATE", x.mark(s, 2, 2), 0);
            due.be("STATE", x.mark(s, 2, 1), 2);
            due.be("STATE", x.mark(s, 2, 0), 1);
            due.be("STATE", x.mark(s, 2, 2), 0);
            due.be("HARD", x.songOf(s, 0), 0);
            due.be("SOUND", x.songOf(s, 1), 0);
            due.be("STATE", x.songOf(s, 2), 2);
        }
        due.be("another's HARD", x.songOf(4, 0), 1);
        due.be("another's SOUND", x.songOf(4, 1), 2);
        due.be("another's STATE", x.songOf(4, 2), 0);
        due.be("refusals", Made.refusals(x), 0);
    }

    private static void markBad(Due due) {
        for (int v : Made.out(0, 1)) {
            Made.refused(due, "mark(" + v + ", 0, 0)", Made.BAD, x -> x.mark(v, 0, 0));
        }
        for (int v : Made.out(0, 2)) {
            Made.refused(due, "mark(0, " + v + ", 0)", Made.BAD, x -> x.mark(0, v, 0));
            Made.refused(due, "mark(0, 2, " + v + ")", Made.BAD, x -> x.mark(0, 2, v));
        }
        for (int v : Made.out(0, 9)) {
            Made.refused(due, "mark(0, 0, " + v + ")", Made.BAD, x -> x.mark(0, 0, v));
        }
        for (int v : Made.out(0, 4)) {
            Made.refused(due, "mark(0, 1, " + v + ")", Made.BAD, x -> x.mark(0, 1, v));
        }
        Made.refused(due, "no SONGS", Made.BAD, x -> x.mark(0, 0, 0), LostBeforeSung::new);
        Made.refused(due, "no seventh", Made.BAD, x -> x.mark(6, 0, 0), Made::fullOfSongs);
    }

    private static void noted(Due due) {
        LostBeforeSung x = Made.plain(0, 6);
        for (int s = 0; s < 6; s += 5) {
            due.be("the first", x.note(s, 0, 4), 0);
            due.be("the last", x.note(s, 7, 3), 0);
            due.be("TUNE", x.songOf(s, 4), 40000003);
            due.be("the first", x.note(s, 0, 1), 4);
            due.be("the last", x.note(s, 7, 0), 3);
            due.be("TUNE", x.songOf(s, 4), 10000000);
        }
        due.be("another's TUNE", x.songOf(1, 4), 0);
        due.be("another's TUNE", x.songOf(4, 4), 0);
        due.be("refusals", Made.refusals(x), 0);
    }

    private static void noteBad(Due due) {
        for (int v : Made.out(0, 1)) {
            Made.refused(due, "note(" + v + ", 0, 0)", Made.BAD, x -> x.note(v, 0, 0));
        }
        for (int v : Made.out(0, 7)) {
            Made.refused(due, "note(0, " + v + ", 1)", Made.BAD, x -> x.note(0, v, 1));
        }
        for (int v : Made.out(0, 4)) {
            Made.refused(due, "note(0, 0, " + v + ")", Made.BAD, x -> x.note(0, 0, v));
        }
        Made.refused(due, "no SONGS", Made.BAD, x -> x.note(0, 0, 0), LostBeforeSung::new);
        Made.refused(due, "no seventh", Made.BAD, x -> x.note(6, 0, 0), Made::fullOfSongs);
    }

    private static void known(Due due) {
        LostBeforeSung x = Made.plain(8, 6);
        x.give(7, 0, 9);
        due.be("0 years", x.knows(7, 5, 0), -1);
        due.be("0 years", x.years(7, 5), 0);
        x.pass();
        due.be("from now on", x.years(7, 5), 1);
        due.be("99 years", x.knows(7, 5, 99), 1);
        due.be("99 years", x.years(7, 5), 99);
        due.be("not", x.knows(7, 5, -1), 99);
        due.be("not", x.years(7, 5), 100);
        due.be("not any more", x.knows(7, 5, -1), -1);
        due.be("not any more", x.songOf(5, 3), 0);
        due.be("the first", x.knows(0, 0, 1), -1);
        due.be("who HAS the first", x.songOf(0, 3), 1);
        due.be("nobody else", x.years(1, 0), 100);
        due.be("nothing else", x.years(0, 1), 100);
        due.be("refusals", Made.refusals(x), 0);
    }

    private static void knowsBad(Due due) {
        for (int v : Made.out(0, 2)) {
            Made.refused(due, "knows(" + v + ", 0, 0)", Made.BAD, x -> x.knows(v, 0, 0));
        }
        for (int v : Made.out(0, 1)) {
            Made.refused(due, "knows(0, " + v + ", 0)", Made.BAD, x -> x.knows(0, v, 0));
        }
        for (int v : Made.out(-1, 99)) {
            Made.refused(due, "knows(0, 0, " + v + ")", Made.BAD, x -> x.knows(0, 0, v));
        }
        Made.refused(due, "nobody is there", Made.BAD, x -> x.knows(0, 0, 0), () -> Made.plain(0, 1));
        Made.refused(due, "no SONGS", Made.BAD, x -> x.knows(0, 0, 0), () -> Made.plain(1, 0));
    }

    private static void seated(Due due) {
        LostBeforeSung x = Made.plain(8, 0);
        due.be("seat(0, 7, 1)", x.seat(0, 7, 1), 0);
        due.be("the first", x.personOf(0, 5), 128);
        due.be("the last", x.personOf(7, 5), 1);
        due.be("seat(7, 0, 1)", x.seat(7, 0, 1), 1);
        due.be("the first", x.personOf(0, 5), 128);
        due.be("seat(0, 1, 0)", x.seat(0, 1, 0), 0);
        due.be("seat(0, 1, 1)", x.seat(0, 1, 1), 0);
        due.be("seat(7, 0, 0)", x.seat(7, 0, 0), 1);
        due.be("the first", x.personOf(0, 5), 2);
        due.be("the last", x.personOf(7, 5), 0);
        due.be("the second", x.personOf(1, 5), 1);
        due.be("seat(0, 7, 0)", x.seat(0, 7, 0), 0);
        due.be("refusals", Made.refusals(x), 0);
        LostBeforeSung y = Made.plain(8, 0);
        for (int p = 0; p < 8; p++) {
            for (int other = 0; other < p; other++) {
                String two = p + " and " + other;
                due.be(two, y.seat(p, other, 0), 0);
                due.be(two, y.seat(other, p, 1), 0);
                due.be(two, y.seat(other, p, 1), 1);
                due.be(two, y.seat(p, other, 1), 1);
                due.be(two, y.seat(p, other, 0), 1);
                due.be(two, y.seat(other, p, 0), 0);
                due.be(two, y.seat(other, p, 1), 0);
            }
        }
    }

    private static void seatBad(Due due) {
        Made.taken(due, "seat(0, 2, 1)", 0, x -> x.seat(0, 2, 1));
        for (int v : Made.out(0, 2)) {
            Made.refused(due, "seat(" + v + ", 0, 1)", Made.BAD, x -> x.seat(v, 0, 1));
            Made.refused(due, "seat(0, " + v + ", 1)", Made.BAD, x -> x.seat(0, v, 1));
        }
        for (int v : Made.out(0, 1)) {
            Made.refused(due, "seat(0, 2, " + v + ")", Made.BAD, x -> x.seat(0, 2, v));
        }
        for (int k = 0; k < 3; k++) {
            int p = k;
            Made.refused(due, "the same", Made.BAD, x -> x.seat(p, p, 1));
            Made.refused(due, "the same", Made.BAD, x -> x.seat(p, p, 0));
        }
    }

    private static void told(Due due) {
        LostBeforeSung x = new LostBeforeSung();
        due.be("WORK", x.tell(0, 9), 3);
        due.be("WORK", x.tell(0, 0), 9);
        due.be("YEAR", x.tell(1, 999), 0);
        due.be("YEAR", x.tell(1, 998), 999);
        due.be("WORK", x.status(2), 0);
        due.be("YEAR", x.status(3), 998);
        due.be("YEAR", x.pass(), 999);
        due.be("refusals", Made.refusals(x), 0);
    }

    private static void tellBad(Due due) {
        for (int v : Made.out(0, 1)) {
            Made.refused(due, "tell(" + v + ", 0)", Made.BAD, x -> x.tell(v, 0));
        }
        for (int v : Made.out(0, 9)) {
            Made.refused(due, "tell(0, " + v + ")", Made.BAD, x -> x.tell(0, v));
        }
        for (int v : Made.out(0, 999)) {
            Made.refused(due, "tell(1, " + v + ")", Made.BAD, x -> x.tell(1, v));
        }
    }
}
