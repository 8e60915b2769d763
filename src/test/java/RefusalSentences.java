/** SHELVES and REFUSALS in the terms, and how long an object is used, sentence by sentence. */
final class RefusalSentences {
    private RefusalSentences() {
    }

    static void all(Sentences t) {
        t.of(Sentences.TERMS, "SHELVES 0 to 7 hold NOTHING (at first), a ROW, or one of the PEOPLE.", RefusalSentences::shelves);
        t.of(Sentences.TERMS, "A ROW has a SORT (0 bytes, 1 shorts, 2 ints, 3 longs, 4 booleans)", RefusalSentences::sorts);
        t.of(Sentences.TERMS, "and 0 to 40 elements", RefusalSentences::lengths);
        t.of(Sentences.TERMS, "(0, or not so, at first);", RefusalSentences::zeroAtFirst);
        t.of(Sentences.TERMS, "what is put in keeps its lowest bits (of booleans: whether it is not 0);",
            RefusalSentences::lowestBits);
        t.of(Sentences.TERMS, "told they are numbers (1, 0).", RefusalSentences::toldNumbers);
        t.of(Sentences.TERMS, "REFUSALS (the call answers the number;", RefusalSentences::answersTheNumber);
        t.of(Sentences.TERMS, "nothing changes but how many there were;", RefusalSentences::nothingChanges);
        t.of(Sentences.TERMS, "the first that fits as each line has them):", RefusalSentences::firstThatFits);
        t.of(Sentences.TERMS, "-2 BAD a number that may not be,", RefusalSentences::badNumber);
        t.of(Sentences.TERMS, "nothing of that number.", RefusalSentences::nothingOfThatNumber);
        t.of(Sentences.TERMS, "-3 OTHER: a SHELF that holds another thing than is wanted.", RefusalSentences::other);
        t.of(Sentences.TERMS, "-4 NOTHING: a SHELF that holds NOTHING.", RefusalSentences::nothing);
        t.of(Sentences.TERMS, "-5 STUCK: it can't be as things stand.", RefusalSentences::stuck);
        t.of(Sentences.TERMS, "-6 FULL.", RefusalSentences::full);
        t.of(Sentences.INTRO, "An object is used for at most 512 calls after it has been made;",
            RefusalSentences::fiveHundredAndTwelve);
    }

    private static void shelves(Due due) {
        LostBeforeSung x = Made.plain(8, 0);
        for (int s = 0; s < 8; s++) {
            due.be("NOTHING at first in " + s, x.holds(s), -1);
            due.be("a ROW in " + s, x.row(s, 2, 1), 1);
            due.be("a ROW in " + s, x.holds(s), 2);
            due.be("a person in " + s, x.show(s, s), 1);
            due.be("a person in " + s, x.holds(s), 10 + s);
            due.be("NOTHING in " + s, x.show(s, -1), 1);
            due.be("NOTHING in " + s, x.holds(s), -1);
        }
        due.be("no SHELF 8", x.row(8, 0, 0), Made.BAD);
        due.be("no SHELF -1", x.show(-1, 0), Made.BAD);
    }

    private static void sorts(Due due) {
        LostBeforeSung x = new LostBeforeSung();
        long[] put = {300, 70000, 1L << 33, 1L << 62, 2};
        long[] kept = {44, 4464, 0, 1L << 62, 1};
        for (int sort = 0; sort < 5; sort++) {
            x.row(0, sort, 1);
            x.set(0, 0, put[sort]);
            due.be("SORT " + sort, x.holds(0), sort);
            due.be("SORT " + sort, x.element(0, 0), kept[sort]);
        }
        due.be("no SORT 5", x.row(0, 5, 1), Made.BAD);
        due.be("no SORT -1", x.row(0, -1, 1), Made.BAD);
        due.be("as before", x.element(0, 0), 1);
    }

    private static void lengths(Due due) {
        for (int n = 0; n <= 40; n++) {
            LostBeforeSung x = new LostBeforeSung();
            due.be("of " + n, x.row(0, 0, n), 1);
            due.be("the last of " + n, x.set(0, n - 1, 1), n == 0 ? Made.BAD : 1);
            due.be("behind the last of " + n, x.set(0, n, 1), Made.BAD);
            due.be("all of " + n, x.copy(0, 0, 0, 0, n), n);
            due.be("one more than " + n, x.copy(0, 0, 0, 0, n + 1), Made.BAD);
        }
        due.be("of 41", new LostBeforeSung().row(0, 0, 41), Made.BAD);
        due.be("of -1", new LostBeforeSung().row(0, 0, -1), Made.BAD);
    }

    private static void zeroAtFirst(Due due) {
        for (int sort = 0; sort < 5; sort++) {
            LostBeforeSung x = new LostBeforeSung();
            x.row(0, 3, 40);
            for (int i = 0; i < 40; i++) {
                x.set(0, i, -1);
            }
            x.row(0, sort, 40);
            for (int i = 0; i < 40; i++) {
                due.be("SORT " + sort + ", element " + i, x.element(0, i), 0);
            }
        }
        LostBeforeSung y = new LostBeforeSung();
        Made.row(y, 0, 0, 1, 2, 3, 4);
        y.row(0, 0, 2);
        y.row(0, 0, 4);
        due.be("behind a shorter one", y.element(0, 3), 0);
    }

    private static void lowestBits(Due due) {
        long[] put = {127, 128, 255, 256, -128, -129, 32767, 32768, 65535, 65536, -32768, -32769, 2147483647L, 2147483648L,
            4294967295L, 4294967296L, -2147483648L, -2147483649L, Long.MAX_VALUE, Long.MIN_VALUE, 0, 1, -1};
        for (int sort = 0; sort < 5; sort++) {
            LostBeforeSung x = new LostBeforeSung();
            x.row(0, sort, 1);
            for (long v : put) {
                due.be("set of " + v, x.set(0, 0, v), 1);
                long kept = sort == 0 ? (byte) v : sort == 1 ? (short) v : sort == 2 ? (int) v : sort == 3 ? v : v != 0 ? 1 : 0;
                due.be(v + " of SORT " + sort, x.element(0, 0), kept);
            }
            due.be("refusals", Made.refusals(x), 0);
        }
        long[][] told = {{0, 128, -128}, {0, 255, -1}, {0, 256, 0}, {0, -129, 127}, {1, 32768, -32768}, {1, 65535, -1},
            {1, 65536, 0}, {1, -32769, 32767}, {2, 2147483648L, -2147483648L}, {2, 4294967295L, -1}, {2, 4294967296L, 0},
            {2, -2147483649L, 2147483647L}, {4, 2, 1}, {4, 256, 1}, {4, 1L << 63, 1}, {4, 0, 0}};
        for (long[] t : told) {
            LostBeforeSung x = new LostBeforeSung();
            x.row(7, (int) t[0], 40);
            x.set(7, 39, t[1]);
            due.be(t[1] + " of SORT " + t[0], x.element(7, 39), t[2]);
        }
    }

    private static void toldNumbers(Due due) {
        LostBeforeSung x = new LostBeforeSung();
        Made.row(x, 0, 4, 0, 1, 2, -1, Long.MIN_VALUE);
        for (int i = 0; i < 5; i++) {
            due.be("boolean " + i, x.element(0, i), i == 0 ? 0 : 1);
        }
        x.set(0, 4, 0);
        due.be("not so again", x.element(0, 4), 0);
        // As notes, as sets of SONGS, as a LOG.
        LostBeforeSung y = Made.plain(1, 1);
        y.give(0, 2, 1);
        y.knows(0, 0, 0);
        Made.row(y, 0, 4, 7, 7);
        due.be("notes 1 1", y.nearest(0, 2, 1), 8);
        y.note(0, 0, 1);
        due.be("notes 1 1", y.nearest(0, 2, 1), 7);
        due.be("sets 1 1", y.fits(0, 2, 0, 0), 1023);
        due.be("a LOG of 1 1", y.judge(0, 2), -1);
        y.set(0, 1, 0);
        due.be("a LOG of 1 0", y.judge(0, 2), 1);
    }

    private static void answersTheNumber(Due due) {
        LostBeforeSung x = Made.usual();
        due.be("BAD", x.row(-1, 0, 0), -2);
        due.be("OTHER", x.set(1, 0, 0), -3);
        due.be("NOTHING", x.set(2, 0, 0), -4);
        due.be("STUCK", x.taught(0, 0), -5);
        due.be("FULL", Made.fullOfPeople().person(0, 0, 0, 0), -6);
    }

    private static void nothingChanges(Due due) {
        for (int i = 0; i < 5; i++) {
            LostBeforeSung x = i == 4 ? Made.fullOfPeople() : Made.usual();
            int[] before = new int[5];
            for (int what = 0; what < 5; what++) {
                before[what] = x.status(12 + what);
            }
            int answer = i == 0 ? x.tell(1, 1000) : i == 1 ? x.set(1, 0, 0) : i == 2 ? x.set(2, 0, 0)
                : i == 3 ? x.taught(0, 0) : x.person(0, 0, 0, 0);
            for (int what = 0; what < 5; what++) {
                due.be(answer + " counted", x.status(12 + what), before[what] + (what == i ? 1 : 0));
            }
        }
        Made.refused(due, "BAD", Made.BAD, x -> x.tell(1, 1000));
        Made.refused(due, "OTHER", Made.OTHER, x -> x.copy(1, 0, 0, 0, 1));
        Made.refused(due, "NOTHING", Made.NOTHING, x -> x.copy(2, 0, 0, 0, 1));
        Made.refused(due, "STUCK", Made.STUCK, x -> x.taught(2, 1));
        Made.refused(due, "FULL", Made.FULL, x -> x.feed(0), Made::fullOfTape);
    }

    private static void firstThatFits(Due due) {
        Made.refused(due, "set: OTHER ahead of BAD i", Made.OTHER, x -> x.set(1, 99, 0));
        Made.refused(due, "set: NOTHING ahead of BAD i", Made.NOTHING, x -> x.set(2, 99, 0));
        Made.refused(due, "copy: BAD SHELVES ahead of OTHER", Made.BAD, x -> x.copy(1, 9, 0, 0, 0));
        Made.refused(due, "copy: OTHER ahead of NOTHING", Made.OTHER, x -> x.copy(2, 1, 0, 0, 0));
        Made.refused(due, "copy: OTHER ahead of BAD the others", Made.OTHER, x -> x.copy(0, 3, 99, 0, 0));
        Made.refused(due, "copy: NOTHING ahead of BAD the others", Made.NOTHING, x -> x.copy(0, 2, 99, 0, 0));
        Made.refused(due, "says: BAD KIND ahead of OTHER", Made.BAD, x -> x.says(0, 6));
        Made.refused(due, "says: BAD KIND ahead of NOTHING", Made.BAD, x -> x.says(2, 6));
        Made.refused(due, "person: BAD ahead of FULL", Made.BAD, x -> x.person(9, 0, 0, 0), Made::fullOfPeople);
        Made.refused(due, "song: BAD ahead of FULL", Made.BAD, x -> x.song(0, 9), Made::fullOfSongs);
        Made.refused(due, "feed: BAD ahead of FULL", Made.BAD, x -> x.feed(999), Made::fullOfTape);
        Made.refused(due, "nearest: BAD what ahead of OTHER", Made.BAD, x -> x.nearest(1, 0, 2));
        Made.refused(due, "nearest: NOTHING ahead of BAD fewer", Made.NOTHING, x -> x.nearest(2, 8, 0));
        Made.refused(due, "nearest: BAD fewer ahead of STUCK", Made.BAD, x -> x.nearest(3, 8, 0));
        Made.refused(due, "fits: BAD person ahead of OTHER", Made.BAD, x -> x.fits(1, 0, 3, 0));
        Made.refused(due, "fits: OTHER ahead of BAD fewer", Made.OTHER, x -> x.fits(1, 12, 0, 0));
        Made.refused(due, "griefs: BAD n ahead of STUCK", Made.BAD, x -> x.griefs(2, 0, 61));
        Made.refused(due, "judge: BAD n ahead of NOTHING", Made.BAD, x -> x.judge(2, 41));
        Made.refused(due, "judge: OTHER ahead of BAD fewer", Made.OTHER, x -> x.judge(1, 40));
        Made.refused(due, "drawn: BAD ahead of STUCK", Made.BAD, x -> x.drawn(0), LostBeforeSung::new);
        Made.refused(due, "taught: BAD ahead of STUCK", Made.BAD, x -> x.taught(3, 0));
    }

    private static void badNumber(Due due) {
        Made.refused(due, "SHELF 8", -2, x -> x.show(8, 0));
        Made.refused(due, "KIND 6", -2, x -> x.ofKind(6));
        Made.refused(due, "n 61", -2, x -> x.drawn(61));
        Made.refused(due, "STATE 3", -2, x -> x.mark(0, 2, 3));
    }

    private static void nothingOfThatNumber(Due due) {
        Made.refused(due, "the person 3 of 3", -2, x -> x.table(3));
        Made.refused(due, "the song 2 of 2", -2, x -> x.weakest(2));
        Made.refused(due, "the element 4 of 4", -2, x -> x.set(0, 4, 0));
        Made.refused(due, "a person who may be, but isn't", -2, x -> x.show(0, 7));
        Made.refused(due, "a song that may be, but isn't", -2, x -> x.order(5));
    }

    private static void other(Due due) {
        Made.refused(due, "a person, where a ROW is wanted", -3, x -> x.judge(1, 0));
        Made.refused(due, "a ROW, where a person is wanted", -3, x -> x.says(0, 0));
        Made.refused(due, "a person of another KIND", -3, x -> x.says(1, 5));
        Made.refused(due, "a ROW of another SORT", -3, x -> x.copy(0, 3, 0, 0, 0));
    }

    private static void nothing(Due due) {
        for (int k = 2; k < 8; k++) {
            int s = k == 3 || k == 4 ? 2 : k;
            Made.refused(due, "set(" + s + ", 0, 0)", -4, x -> x.set(s, 0, 0));
            Made.refused(due, "says(" + s + ", 0)", -4, x -> x.says(s, 0));
            Made.refused(due, "copy(0, " + s + ", 0, 0, 0)", -4, x -> x.copy(0, s, 0, 0, 0));
            Made.refused(due, "copy(" + s + ", 0, 0, 0, 0)", -4, x -> x.copy(s, 0, 0, 0, 0));
            Made.refused(due, "nearest(" + s + ", 0, 0)", -4, x -> x.nearest(s, 0, 0));
            Made.refused(due, "fits(" + s + ", 0, 0, 0)", -4, x -> x.fits(s, 0, 0, 0));
            Made.refused(due, "judge(" + s + ", 0)", -4, x -> x.judge(s, 0));
        }
    }

    private static void stuck(Due due) {
        Made.refused(due, "nothing was kept", -5, x -> x.back(), LostBeforeSung::new);
        Made.refused(due, "nobody is there", -5, x -> x.drawn(60), LostBeforeSung::new);
        Made.refused(due, "he HAS it", -5, x -> x.taught(1, 0));
        Made.refused(due, "he doesn't HAVE it", -5, x -> x.griefs(1, 1, 60));
        Made.refused(due, "no note", -5, x -> x.nearest(3, 2, 0));
    }

    private static void full(Due due) {
        Made.refused(due, "a ninth person", -6, x -> x.person(5, 9, 9, 9), Made::fullOfPeople);
        Made.refused(due, "a seventh song", -6, x -> x.song(9, 4), Made::fullOfSongs);
        Made.refused(due, "a 251st byte", -6, x -> x.feed(255), Made::fullOfTape);
    }

    private static void fiveHundredAndTwelve(Due due) {
        LostBeforeSung x = new LostBeforeSung();
        for (int i = 1; i <= 512; i++) {
            due.be("call " + i, x.pass(), i);
        }
        LostBeforeSung y = new LostBeforeSung();
        for (int i = 1; i <= 511; i++) {
            y.drawn(0);
        }
        due.be("the last call", y.status(12), 511);
        // The dearest calls, to the last of them.
        LostBeforeSung z = Made.plain(8, 6);
        for (int p = 1; p < 8; p++) {
            z.seat(p, p - 1, 1);
        }
        z.give(7, 2, 1);
        z.knows(7, 5, 0);
        for (int i = 8 + 6 + 7 + 2; i < 511; i++) {
            z.teach(5, 4);
        }
        due.be("the last call", z.teach(5, 7), -1);
    }
}
