/** Promises 20 to 23, 28, 41 to 46 and 48, sentence by sentence: what is so now. */
final class AskingSentences {
    private AskingSentences() {
    }

    static void all(Sentences t) {
        t.of(20, "Of one: KIND (0), a (1), MEMORY (2), GRIEF (3), whether he HUMS (4), BESIDE whom (5; bits), "
            + "SONGS he HAS (6; bits).", AskingSentences::personOf);
        t.of(20, "BAD.", AskingSentences::personOfBad);
        t.of(21, "Of a SONG: HARD (0), SOUND (1), STATE (2), who HAS it (3; bits),", AskingSentences::songOf);
        t.of(21, "its TUNE (4: the first note is the highest of 8 digits).", AskingSentences::tuneOf);
        t.of(21, "BAD.", AskingSentences::songOfBad);
        t.of(22, "For how many years one HAS a SONG;", AskingSentences::years);
        t.of(22, "100: he doesn't.", AskingSentences::noYears);
        t.of(22, "BAD.", AskingSentences::yearsBad);
        t.of(23, "HOLD.", AskingSentences::hold);
        t.of(23, "BAD.", AskingSentences::holdBad);
        t.of(28, "FINDER;", AskingSentences::finder);
        t.of(28, "NONE: nobody. (NONE isn't refused.)", AskingSentences::noFinder);
        t.of(41, "KNOWN SONGS now (what 0; bits), new (1), LOST (2), SUNG (3).", AskingSentences::songs);
        t.of(41, "BAD.", AskingSentences::songsBad);
        t.of(42, "PEOPLE (bits) who HAVE no SONG (what 0),", AskingSentences::peopleOfNone);
        t.of(42, "all that are KNOWN (1).", AskingSentences::peopleOfAll);
        t.of(42, "BAD.", AskingSentences::peopleBad);
        t.of(43, "SONGS (bits) two HAVE both.", AskingSentences::both);
        t.of(43, "BAD: also the same.", AskingSentences::bothBad);
        t.of(44, "The SONG most HAVE (what 0), fewest (1),", AskingSentences::most);
        t.of(44, "of several the first;", AskingSentences::mostOfSeveral);
        t.of(44, "NONE: no SONGS.", AskingSentences::mostOfNone);
        t.of(44, "BAD.", AskingSentences::mostBad);
        t.of(44, "(NONE isn't refused.)", AskingSentences::mostNotRefused);
        t.of(45, "Who sits BESIDE one, or BESIDE such, and so on,", AskingSentences::table);
        t.of(45, "and he himself (bits).", AskingSentences::tableOfOne);
        t.of(45, "BAD.", AskingSentences::tableBad);
        t.of(46, "The one who HAS a SONG on whom it will not be for longest: of those who HAVE it the one whose HOLD "
            + "less his years is least,", AskingSentences::weakest);
        t.of(46, ", of several the first;", AskingSentences::weakestOfSeveral);
        t.of(46, "NONE: nobody HAS it.", AskingSentences::weakestOfNone);
        t.of(46, "BAD.", AskingSentences::weakestBad);
        t.of(46, "(NONE isn't refused.)", AskingSentences::weakestNotRefused);
        t.of(48, "How many are of just a KIND.", AskingSentences::ofKind);
        t.of(48, "BAD.", AskingSentences::ofKindBad);
    }

    private static LostBeforeSung eightOfSix() {
        LostBeforeSung x = new LostBeforeSung();
        for (int p = 0; p < 8; p++) {
            x.person(p % 6, p, 9 - p, (p + 4) % 10);
        }
        for (int s = 0; s < 6; s++) {
            x.song(9 - s, s % 5);
        }
        return x;
    }

    private static void personOf(Due due) {
        LostBeforeSung x = eightOfSix();
        for (int other = 0; other < 7; other++) {
            x.seat(7, other, 1);
        }
        x.give(7, 2, 1);
        for (int s = 0; s < 6; s++) {
            x.knows(7, s, s == 5 ? 99 : 0);
        }
        x.knows(0, 5, 1);
        int[] last = {1, 7, 2, 1, 1, 127, 63};
        int[] first = {0, 0, 9, 4, 0, 128, 32};
        int[] between = {3, 3, 6, 7, 0, 128, 0};
        for (int what = 0; what < 7; what++) {
            due.be("personOf(7, " + what + ")", x.personOf(7, what), last[what]);
            due.be("personOf(0, " + what + ")", x.personOf(0, what), first[what]);
            due.be("personOf(3, " + what + ")", x.personOf(3, what), between[what]);
        }
        int[] usual = {5, 1, 2, 3, 0, 2, 1};
        for (int k = 0; k < 7; k++) {
            int what = k;
            Made.asked(due, "personOf(0, " + what + ")", usual[what], y -> y.personOf(0, what));
        }
    }

    private static void personOfBad(Due due) {
        for (int v : Made.out(0, 2)) {
            Made.refused(due, "personOf(" + v + ", 0)", Made.BAD, x -> x.personOf(v, 0));
        }
        for (int v : Made.out(0, 6)) {
            Made.refused(due, "personOf(0, " + v + ")", Made.BAD, x -> x.personOf(0, v));
        }
        Made.refused(due, "no ninth", Made.BAD, x -> x.personOf(8, 0), Made::fullOfPeople);
        Made.refused(due, "nobody is there", Made.BAD, x -> x.personOf(0, 6), LostBeforeSung::new);
    }

    private static void songOf(Due due) {
        LostBeforeSung x = eightOfSix();
        for (int p = 0; p < 8; p++) {
            x.knows(p, 5, p);
        }
        x.knows(7, 0, 0);
        x.mark(5, 2, 2);
        int[] last = {4, 0, 2, 255, 0};
        int[] first = {9, 0, 0, 128, 0};
        int[] between = {6, 3, 0, 0, 0};
        for (int what = 0; what < 5; what++) {
            due.be("songOf(5, " + what + ")", x.songOf(5, what), last[what]);
            due.be("songOf(0, " + what + ")", x.songOf(0, what), first[what]);
            due.be("songOf(3, " + what + ")", x.songOf(3, what), between[what]);
        }
        int[] usual = {6, 4, 0, 3, 40000000};
        for (int k = 0; k < 5; k++) {
            int what = k;
            Made.asked(due, "songOf(0, " + what + ")", usual[what], y -> y.songOf(0, what));
        }
    }

    private static void tuneOf(Due due) {
        LostBeforeSung x = Made.plain(0, 6);
        String[] tunes = {"00000000", "44444444", "10000000", "00000001", "01234012", "43210432"};
        for (int s = 0; s < 6; s++) {
            Made.tune(x, s, tunes[s]);
        }
        for (int s = 0; s < 6; s++) {
            due.be("TUNE of " + s, x.songOf(s, 4), Integer.parseInt(tunes[s]));
        }
    }

    private static void songOfBad(Due due) {
        for (int v : Made.out(0, 1)) {
            Made.refused(due, "songOf(" + v + ", 0)", Made.BAD, x -> x.songOf(v, 0));
        }
        for (int v : Made.out(0, 4)) {
            Made.refused(due, "songOf(0, " + v + ")", Made.BAD, x -> x.songOf(0, v));
        }
        Made.refused(due, "no seventh", Made.BAD, x -> x.songOf(6, 0), Made::fullOfSongs);
        Made.refused(due, "no SONGS", Made.BAD, x -> x.songOf(0, 4), LostBeforeSung::new);
    }

    private static void years(Due due) {
        LostBeforeSung x = Made.plain(8, 6);
        x.knows(7, 5, 99);
        x.knows(0, 5, 0);
        x.knows(7, 0, 42);
        due.be("99", x.years(7, 5), 99);
        due.be("0", x.years(0, 5), 0);
        due.be("42", x.years(7, 0), 42);
        Made.asked(due, "years(0, 0)", 2, y -> y.years(0, 0));
        Made.asked(due, "years(2, 1)", 1, y -> y.years(2, 1));
    }

    private static void noYears(Due due) {
        Made.asked(due, "years(2, 0)", 100, y -> y.years(2, 0));
        LostBeforeSung x = Made.plain(1, 1);
        due.be("at first", x.years(0, 0), 100);
        x.knows(0, 0, 99);
        due.be("he does", x.years(0, 0), 99);
        x.pass();
        due.be("forgotten", x.years(0, 0), 100);
        x.knows(0, 0, 3);
        x.knows(0, 0, -1);
        due.be("taken from him", x.years(0, 0), 100);
    }

    private static void yearsBad(Due due) {
        for (int v : Made.out(0, 2)) {
            Made.refused(due, "years(" + v + ", 0)", Made.BAD, x -> x.years(v, 0));
        }
        for (int v : Made.out(0, 1)) {
            Made.refused(due, "years(0, " + v + ")", Made.BAD, x -> x.years(0, v));
        }
        Made.refused(due, "nobody is there", Made.BAD, x -> x.years(0, 0), () -> Made.plain(0, 6));
        Made.refused(due, "no SONGS", Made.BAD, x -> x.years(0, 0), () -> Made.plain(8, 0));
    }

    private static void hold(Due due) {
        LostBeforeSung x = eightOfSix();
        // MEMORY 9 to 2, GRIEF 4 to 9, 0, 1, HARD 9 to 4; a 0 to 7, WORK 3.
        int[][] due5 = {{0, 14}, {1, 11}, {2, 7}, {3, 3}, {4, 8}, {5, 8}, {6, 12}, {7, 3}};
        int[] due9 = {9, 6, 2, 0, 5, 0, 7, 0};
        for (int[] d : due5) {
            due.be("hold(" + d[0] + ", 0)", x.hold(d[0], 0), d[1]);
            due.be("hold(" + d[0] + ", 5)", x.hold(d[0], 5), due9[d[0]]);
        }
        due.be("whether he HAS it is no matter", x.songOf(0, 3), 0);
        Made.asked(due, "hold(0, 0)", 10, y -> y.hold(0, 0));
        Made.asked(due, "hold(2, 1)", 2, y -> y.hold(2, 1));
    }

    private static void holdBad(Due due) {
        for (int v : Made.out(0, 2)) {
            Made.refused(due, "hold(" + v + ", 0)", Made.BAD, x -> x.hold(v, 0));
        }
        for (int v : Made.out(0, 1)) {
            Made.refused(due, "hold(0, " + v + ")", Made.BAD, x -> x.hold(0, v));
        }
        Made.refused(due, "nobody is there", Made.BAD, x -> x.hold(0, 0), () -> Made.plain(0, 6));
        Made.refused(due, "no SONGS", Made.BAD, x -> x.hold(0, 0), () -> Made.plain(8, 0));
    }

    private static void finder(Due due) {
        Made.asked(due, "finder()", 2, x -> x.finder());
        LostBeforeSung x = Made.plain(8, 0);
        due.be("all of MEMORY 0", x.finder(), 0);
        for (int p = 7; p >= 0; p--) {
            x.give(p, 0, 9);
            due.be("of several the first", x.finder(), p);
        }
        x.give(0, 0, 8);
        due.be("the next", x.finder(), 1);
    }

    private static void noFinder(Due due) {
        Made.asked(due, "finder()", -1, x -> x.finder(), LostBeforeSung::new);
        Made.asked(due, "finder()", -1, x -> x.finder(), () -> Made.plain(0, 6));
        Made.asked(due, "finder()", 0, x -> x.finder(), () -> Made.plain(1, 0));
    }

    private static LostBeforeSung states() {
        LostBeforeSung x = Made.plain(8, 6);
        x.knows(7, 0, 0);
        x.knows(0, 5, 99);
        x.knows(7, 5, 99);
        x.knows(3, 2, 0);
        int[] states = {2, 0, 1, 1, 2, 0};
        for (int s = 0; s < 6; s++) {
            x.mark(s, 2, states[s]);
        }
        return x;
    }

    private static void songs(Due due) {
        int[] now = {1 + 32 + 4, 2 + 32, 4 + 8, 1 + 16};
        int[] none = {0, 0, 0, 0};
        int[] fresh = {0, 63, 0, 0};
        for (int k = 0; k < 4; k++) {
            int what = k;
            Made.asked(due, "songs(" + what + ")", now[what], x -> x.songs(what), AskingSentences::states);
            Made.asked(due, "songs(" + what + ") of none", none[what], x -> x.songs(what), () -> Made.plain(8, 0));
            Made.asked(due, "songs(" + what + ") at first", fresh[what], x -> x.songs(what), () -> Made.plain(8, 6));
        }
    }

    private static void songsBad(Due due) {
        for (int v : Made.out(0, 3)) {
            Made.refused(due, "songs(" + v + ")", Made.BAD, x -> x.songs(v));
            Made.refused(due, "songs(" + v + ")", Made.BAD, x -> x.songs(v), LostBeforeSung::new);
        }
    }

    private static void peopleOfNone(Due due) {
        Made.asked(due, "nobody is there", 0, x -> x.people(0), () -> Made.plain(0, 6));
        Made.asked(due, "no SONGS", 255, x -> x.people(0), () -> Made.plain(8, 0));
        Made.asked(due, "nobody HAS any", 255, x -> x.people(0), () -> Made.plain(8, 6));
        Made.asked(due, "all but those who HAVE some", 255 - 128 - 1 - 8, x -> x.people(0), AskingSentences::states);
        LostBeforeSung x = Made.plain(8, 6);
        for (int p = 0; p < 8; p++) {
            x.knows(p, 5, 0);
            due.be("those behind " + p, x.people(0), 255 & 255 << p + 1);
        }
    }

    private static void peopleOfAll(Due due) {
        Made.asked(due, "nobody is there", 0, x -> x.people(1), () -> Made.plain(0, 6));
        Made.asked(due, "none is KNOWN: all HAVE all of them", 255, x -> x.people(1), () -> Made.plain(8, 6));
        Made.asked(due, "nobody HAS all", 0, x -> x.people(1), AskingSentences::states);
        LostBeforeSung x = Made.plain(8, 6);
        x.knows(7, 0, 0);
        due.be("the one is KNOWN", x.people(1), 128);
        x.knows(0, 0, 99);
        due.be("the one is KNOWN", x.people(1), 129);
        x.knows(0, 5, 0);
        due.be("two are KNOWN", x.people(1), 1);
        x.knows(7, 5, 0);
        x.knows(7, 3, 0);
        due.be("three are KNOWN", x.people(1), 128);
    }

    private static void peopleBad(Due due) {
        for (int v : Made.out(0, 1)) {
            Made.refused(due, "people(" + v + ")", Made.BAD, x -> x.people(v));
            Made.refused(due, "people(" + v + ")", Made.BAD, x -> x.people(v), LostBeforeSung::new);
        }
    }

    private static void both(Due due) {
        Made.asked(due, "both(0, 1)", 1, x -> x.both(0, 1));
        Made.asked(due, "both(1, 2)", 0, x -> x.both(1, 2));
        LostBeforeSung x = Made.plain(8, 6);
        for (int s = 0; s < 6; s++) {
            x.knows(7, s, 0);
            x.knows(0, s, s % 2 == 0 ? -1 : 5);
        }
        due.be("what both HAVE", x.both(0, 7), 2 + 8 + 32);
        due.be("the other way", x.both(7, 0), 2 + 8 + 32);
        due.be("what one HAS alone", x.both(7, 1), 0);
        due.be("what neither HAS", x.both(5, 6), 0);
        due.be("no SONGS", Made.plain(2, 0).both(0, 1), 0);
        int[] sets = {63, 21, 42, 7, 56, 27, 0, 45};
        LostBeforeSung y = Made.plain(8, 6);
        for (int p = 0; p < 8; p++) {
            for (int s = 0; s < 6; s++) {
                y.knows(p, s, (sets[p] >> s & 1) - 1);
            }
        }
        for (int p = 0; p < 8; p++) {
            for (int other = 0; other < 8; other++) {
                if (p != other) {
                    due.be("of each two, " + p + " and " + other, y.both(p, other), sets[p] & sets[other]);
                }
            }
        }
    }

    private static void bothBad(Due due) {
        for (int v : Made.out(0, 2)) {
            Made.refused(due, "both(" + v + ", 0)", Made.BAD, x -> x.both(v, 0));
            Made.refused(due, "both(0, " + v + ")", Made.BAD, x -> x.both(0, v));
        }
        for (int k = 0; k < 3; k++) {
            int p = k;
            Made.refused(due, "the same", Made.BAD, x -> x.both(p, p));
        }
        Made.refused(due, "nobody is there", Made.BAD, x -> x.both(0, 1), LostBeforeSung::new);
        Made.refused(due, "only one is there", Made.BAD, x -> x.both(0, 1), () -> Made.plain(1, 1));
    }

    /** SONGS 0 to 5 are had by so many. */
    private static LostBeforeSung hadBy(int... many) {
        LostBeforeSung x = Made.plain(8, many.length);
        for (int s = 0; s < many.length; s++) {
            for (int p = 0; p < many[s]; p++) {
                x.knows(s % 2 == 0 ? p : 7 - p, s, 0);
            }
        }
        return x;
    }

    private static void most(Due due) {
        Made.asked(due, "most(0)", 0, x -> x.most(0));
        Made.asked(due, "most(1)", 1, x -> x.most(1));
        due.be("the last", hadBy(7, 6, 5, 4, 3, 8).most(0), 5);
        due.be("the last", hadBy(8, 7, 6, 5, 4, 3).most(1), 5);
        due.be("the first", hadBy(8, 7, 6, 5, 4, 3).most(0), 0);
        due.be("the first", hadBy(0, 1, 2, 3, 4, 5).most(1), 0);
        due.be("between", hadBy(1, 8, 0, 3, 1, 2).most(0), 1);
        due.be("between", hadBy(1, 8, 0, 3, 1, 2).most(1), 2);
        due.be("the one", hadBy(8).most(1), 0);
        due.be("the one", hadBy(0).most(0), 0);
    }

    private static void mostOfSeveral(Due due) {
        due.be("nobody HAS any", hadBy(0, 0, 0, 0, 0, 0).most(0), 0);
        due.be("nobody HAS any", hadBy(0, 0, 0, 0, 0, 0).most(1), 0);
        due.be("all HAVE all", hadBy(8, 8, 8, 8, 8, 8).most(0), 0);
        due.be("all HAVE all", hadBy(8, 8, 8, 8, 8, 8).most(1), 0);
        due.be("most", hadBy(1, 3, 2, 3, 0, 3).most(0), 1);
        due.be("fewest", hadBy(4, 3, 2, 3, 2, 2).most(1), 2);
    }

    private static void mostOfNone(Due due) {
        due.be("most", Made.plain(8, 0).most(0), -1);
        due.be("fewest", Made.plain(8, 0).most(1), -1);
        due.be("nobody is there, but a SONG", Made.plain(0, 1).most(0), 0);
        due.be("nobody is there, but a SONG", Made.plain(0, 1).most(1), 0);
    }

    private static void mostBad(Due due) {
        for (int v : Made.out(0, 1)) {
            Made.refused(due, "most(" + v + ")", Made.BAD, x -> x.most(v));
            Made.refused(due, "most(" + v + ") of none", Made.BAD, x -> x.most(v), LostBeforeSung::new);
        }
    }

    private static void mostNotRefused(Due due) {
        Made.asked(due, "most(0)", -1, x -> x.most(0), LostBeforeSung::new);
        Made.asked(due, "most(1)", -1, x -> x.most(1), () -> Made.plain(8, 0));
    }

    private static void table(Due due) {
        Made.asked(due, "table(0)", 3, x -> x.table(0));
        LostBeforeSung x = Made.plain(8, 0);
        // A line in an order of its own: 3 7 0 6 1 5 2 4.
        int[] line = {3, 7, 0, 6, 1, 5, 2, 4};
        for (int i = 1; i < 8; i++) {
            x.seat(line[i - 1], line[i], 1);
        }
        for (int p = 0; p < 8; p++) {
            due.be("the whole line from " + p, x.table(p), 255);
        }
        x.seat(6, 1, 0);
        for (int i = 0; i < 8; i++) {
            due.be("the half of " + line[i], x.table(line[i]), i < 4 ? 128 + 64 + 8 + 1 : 32 + 16 + 4 + 2);
        }
        LostBeforeSung y = Made.plain(8, 0);
        for (int p = 0; p < 8; p++) {
            y.seat(p, (p + 1) % 8, 1);
        }
        due.be("a ring", y.table(5), 255);
        for (int p = 1; p < 8; p++) {
            y.seat(p, (p + 1) % 8, 0);
        }
        due.be("two", y.table(1), 3);
    }

    private static void tableOfOne(Due due) {
        Made.asked(due, "table(2)", 4, x -> x.table(2));
        LostBeforeSung x = Made.plain(8, 0);
        for (int p = 0; p < 8; p++) {
            due.be("he alone", x.table(p), 1 << p);
        }
        due.be("the only one", Made.plain(1, 0).table(0), 1);
        x.seat(0, 7, 1);
        x.seat(0, 7, 0);
        due.be("he alone again", x.table(7), 128);
    }

    private static void tableBad(Due due) {
        for (int v : Made.out(0, 2)) {
            Made.refused(due, "table(" + v + ")", Made.BAD, x -> x.table(v));
        }
        Made.refused(due, "no ninth", Made.BAD, x -> x.table(8), Made::fullOfPeople);
        Made.refused(due, "nobody is there", Made.BAD, x -> x.table(0), LostBeforeSung::new);
    }

    private static void weakest(Due due) {
        Made.asked(due, "weakest(0)", 0, x -> x.weakest(0), AskingSentences::threeWhoHave);
        LostBeforeSung x = threeWhoHave();
        x.knows(2, 0, 4);
        due.be("HOLD 9, years 4, against 7 and 6", x.weakest(0), 2);
        x.knows(1, 0, 3);
        due.be("HOLD 7, years 3, is 4", x.weakest(0), 1);
        x.knows(0, 0, 99);
        due.be("below 0", x.weakest(0), 0);
        x.knows(0, 0, -1);
        due.be("of those who HAVE it", x.weakest(0), 1);
        x.give(1, 2, 1);
        due.be("whether he HUMS or not", x.weakest(0), 1);
        x.mark(0, 0, 0);
        x.give(1, 0, 9);
        due.be("HOLD 6 less 3, HOLD 5 less 4", x.weakest(0), 2);
        // Of HARD 4 the child has HOLD 10 and the islander 8; of HARD 0 it would be 2 and 4.
        LostBeforeSung y = new LostBeforeSung();
        y.person(5, 0, 1, 0);
        y.person(0, 0, 4, 0);
        y.song(4, 0);
        y.song(0, 4);
        for (int p = 0; p < 2; p++) {
            y.knows(p, 0, 0);
            y.knows(p, 1, 0);
        }
        due.be("of HARD 4", y.weakest(0), 1);
        due.be("of HARD 0", y.weakest(1), 0);
        LostBeforeSung z = new LostBeforeSung();
        z.person(0, 0, 4, 0);
        z.person(5, 0, 1, 0);
        z.song(4, 0);
        z.song(0, 4);
        for (int p = 0; p < 2; p++) {
            z.knows(p, 0, 0);
            z.knows(p, 1, 0);
        }
        due.be("the islander first, of HARD 4", z.weakest(0), 0);
        due.be("the islander first, of HARD 0", z.weakest(1), 1);
    }

    /** HOLD 6, 7, 9; years 0. */
    private static LostBeforeSung threeWhoHave() {
        LostBeforeSung x = new LostBeforeSung();
        x.person(0, 0, 2, 0);
        x.person(2, 0, 6, 0);
        x.person(0, 0, 5, 0);
        x.person(0, 0, 0, 9);
        x.song(4, 0);
        for (int p = 0; p < 3; p++) {
            x.knows(p, 0, 0);
        }
        return x;
    }

    private static void weakestOfSeveral(Due due) {
        LostBeforeSung x = threeWhoHave();
        x.knows(1, 0, 1);
        due.be("6 less 0, 7 less 1", x.weakest(0), 0);
        x.knows(2, 0, 3);
        due.be("all alike", x.weakest(0), 0);
        x.knows(0, 0, -1);
        due.be("two alike", x.weakest(0), 1);
        x.knows(1, 0, -1);
        due.be("one alone", x.weakest(0), 2);
    }

    private static void weakestOfNone(Due due) {
        due.be("nobody HAS it", Made.plain(8, 1).weakest(0), -1);
        due.be("nobody is there", Made.plain(0, 1).weakest(0), -1);
        LostBeforeSung x = Made.plain(8, 2);
        x.knows(3, 1, 0);
        due.be("another one", x.weakest(0), -1);
        due.be("that one", x.weakest(1), 3);
    }

    private static void weakestBad(Due due) {
        for (int v : Made.out(0, 1)) {
            Made.refused(due, "weakest(" + v + ")", Made.BAD, x -> x.weakest(v));
        }
        Made.refused(due, "no SONGS", Made.BAD, x -> x.weakest(0), () -> Made.plain(8, 0));
    }

    private static void weakestNotRefused(Due due) {
        Made.asked(due, "weakest(0)", -1, x -> x.weakest(0), () -> Made.plain(8, 1));
        Made.asked(due, "weakest(5)", -1, x -> x.weakest(5), () -> Made.plain(0, 6));
    }

    private static void ofKind(Due due) {
        int[] usual = {1, 0, 0, 1, 0, 1};
        for (int k = 0; k < 6; k++) {
            int kind = k;
            Made.asked(due, "ofKind(" + kind + ")", usual[kind], x -> x.ofKind(kind));
            Made.asked(due, "nobody is there", 0, x -> x.ofKind(kind), LostBeforeSung::new);
            LostBeforeSung x = new LostBeforeSung();
            for (int p = 0; p < 8; p++) {
                x.person(kind, 0, 0, 0);
            }
            for (int other = 0; other < 6; other++) {
                due.be("eight of KIND " + kind + ", " + other, x.ofKind(other), kind == other ? 8 : 0);
            }
        }
        LostBeforeSung x = eightOfSix();
        int[] of = {2, 2, 1, 1, 1, 1};
        for (int kind = 0; kind < 6; kind++) {
            due.be("just KIND " + kind, x.ofKind(kind), of[kind]);
        }
    }

    private static void ofKindBad(Due due) {
        for (int v : Made.out(0, 5)) {
            Made.refused(due, "ofKind(" + v + ")", Made.BAD, x -> x.ofKind(v));
            Made.refused(due, "ofKind(" + v + ")", Made.BAD, x -> x.ofKind(v), LostBeforeSung::new);
        }
    }
}
