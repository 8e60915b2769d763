/** TUNES in the terms, and promises 35 to 38, sentence by sentence: changes, join, like, nearest. */
final class TuneSentences {
    private TuneSentences() {
    }

    static void all(Sentences t) {
        t.of(Sentences.TERMS, "TUNES: CHANGES from one SONG's TUNE to another's: the fewest notes put in, left out or "
            + "changed by which one becomes the other.", TuneSentences::changesTerm);
        t.of(Sentences.TERMS, "JOIN: how many notes at the least there are in a row that begins with the one and ends with "
            + "the other", TuneSentences::joinTerm);
        t.of(Sentences.TERMS, "(the end of the one may be the beginning of the other).", TuneSentences::joinShared);
        t.of(Sentences.TERMS, "NEAREST to a told ROW of 0 to 8 notes:", TuneSentences::nearestLengths);
        t.of(Sentences.TERMS, "the SONG with fewest CHANGES to it, of several the first;", TuneSentences::nearestTerm);
        t.of(Sentences.TERMS, "NONE: no SONGS.", TuneSentences::nearestOfNone);
        t.of(Sentences.TERMS, "LIKE: how many places of two TUNES are alike.", TuneSentences::likeTerm);
        t.of(35, "CHANGES.", TuneSentences::changes);
        t.of(35, "BAD.", TuneSentences::changesBad);
        t.of(36, "JOIN: the first begins it, the other one ends it.", TuneSentences::join);
        t.of(36, "BAD.", TuneSentences::joinBad);
        t.of(37, "LIKE.", TuneSentences::like);
        t.of(37, "BAD.", TuneSentences::likeBad);
        t.of(38, "NEAREST to the first n elements (0 to 8) of the ROW in SHELF s (what 0),", TuneSentences::nearest);
        t.of(38, "the CHANGES (1);", TuneSentences::nearestChanges);
        t.of(38, "; NONE. BAD SHELF, n, what;", TuneSentences::nearestBad);
        t.of(38, "OTHER;", TuneSentences::nearestOther);
        t.of(38, "NOTHING;", TuneSentences::nearestNothing);
        t.of(38, "BAD: fewer elements;", TuneSentences::nearestFewer);
        t.of(38, "STUCK: no note.", TuneSentences::nearestStuck);
        t.of(38, "(NONE isn't refused.)", TuneSentences::nearestNotRefused);
    }

    /** The last of six SONGS has the one tune, the first the other; all between are of no tune at all. */
    private static LostBeforeSung two(String tune, String other) {
        LostBeforeSung x = Made.plain(1, 6);
        Made.tune(x, 5, tune);
        Made.tune(x, 0, other);
        return x;
    }

    private static void areChanges(Due due, String tune, String other, int changes) {
        LostBeforeSung x = two(tune, other);
        due.be("changes " + tune + " " + other, x.changes(5, 0), changes);
        due.be("changes back " + other + " " + tune, x.changes(0, 5), changes);
        due.be("to itself", x.changes(5, 5), 0);
    }

    private static void changesTerm(Due due) {
        areChanges(due, "00000000", "00000000", 0);
        areChanges(due, "00000000", "44444444", 8);
        areChanges(due, "01234012", "01234012", 0);
        areChanges(due, "01234012", "11234012", 1);
        areChanges(due, "01234012", "01234013", 1);
        areChanges(due, "01234012", "01230012", 1);
        // One left out ahead, one put in behind.
        areChanges(due, "01234012", "12340123", 2);
        areChanges(due, "01010101", "10101010", 2);
        areChanges(due, "12341234", "34123412", 4);
        areChanges(due, "12340000", "00001234", 8);
        areChanges(due, "11112222", "22221111", 8);
        areChanges(due, "01230123", "32103210", 6);
        areChanges(due, "00112233", "01122334", 2);
        areChanges(due, "00000012", "00000021", 2);
        areChanges(due, "40000000", "00000004", 2);
    }

    private static void joinsTo(Due due, String tune, String other, int join) {
        due.be("join " + tune + " " + other, two(tune, other).join(5, 0), join);
    }

    private static void joinTerm(Due due) {
        joinsTo(due, "00000000", "44444444", 16);
        joinsTo(due, "01234012", "34012340", 11);
        joinsTo(due, "11111110", "11111112", 16);
        joinsTo(due, "12340000", "40000123", 11);
        joinsTo(due, "44444440", "04444444", 15);
        joinsTo(due, "04444444", "44444440", 9);
        // The most notes in common: 1 1 at the end, not the last 1 alone.
        joinsTo(due, "23231111", "11112323", 12);
        joinsTo(due, "23401211", "11212340", 14);
        joinsTo(due, "20101010", "10101012", 10);
        joinsTo(due, "30201010", "10101012", 12);
    }

    private static void joinShared(Due due) {
        String tune = "01234321";
        String rest = "44444444";
        for (int shared = 0; shared <= 8; shared++) {
            String other = tune.substring(8 - shared) + rest.substring(shared);
            joinsTo(due, tune, other, 16 - shared);
        }
        joinsTo(due, "44444444", "44444444", 8);
        joinsTo(due, "00000001", "10000000", 15);
        joinsTo(due, "10000000", "00000001", 9);
    }

    /** 0: 00000000, 1: 11112222, 2: 12341234, 3: as 1. */
    private static LostBeforeSung four() {
        LostBeforeSung x = Made.plain(1, 4);
        Made.tune(x, 1, "11112222");
        Made.tune(x, 2, "12341234");
        Made.tune(x, 3, "11112222");
        x.show(1, 0);
        return x;
    }

    private static LostBeforeSung told(LostBeforeSung x, int sort, String notes) {
        x.row(0, sort, notes.length());
        for (int i = 0; i < notes.length(); i++) {
            x.set(0, i, notes.charAt(i) - '0');
        }
        return x;
    }

    private static void isNearest(Due due, String notes, int song, int changes) {
        for (int sort = 0; sort < 4; sort++) {
            LostBeforeSung x = told(four(), sort, notes);
            due.be("nearest to " + notes, x.nearest(0, notes.length(), 0), song);
            due.be("changes of " + notes, x.nearest(0, notes.length(), 1), changes);
        }
    }

    private static void nearestLengths(Due due) {
        isNearest(due, "", 0, 8);
        isNearest(due, "4", 2, 7);
        isNearest(due, "12", 1, 6);
        isNearest(due, "123", 2, 5);
        isNearest(due, "1234", 2, 4);
        isNearest(due, "00000", 0, 3);
        isNearest(due, "111122", 1, 2);
        isNearest(due, "1234134", 2, 1);
        isNearest(due, "12341234", 2, 0);
        LostBeforeSung x = told(four(), 0, "123412341");
        due.be("nine notes", x.nearest(0, 9, 0), Made.BAD);
        due.be("eight of nine", x.nearest(0, 8, 1), 0);
        due.be("-1 notes", x.nearest(0, -1, 0), Made.BAD);
    }

    private static void nearestTerm(Due due) {
        isNearest(due, "11112222", 1, 0);
        isNearest(due, "11112223", 1, 1);
        isNearest(due, "00000000", 0, 0);
        isNearest(due, "00001234", 0, 4);
        isNearest(due, "01234123", 2, 2);
        isNearest(due, "44444444", 2, 6);
        isNearest(due, "33333333", 2, 6);
        isNearest(due, "22222222", 1, 4);
        LostBeforeSung x = told(Made.plain(0, 6), 0, "44444444");
        due.be("all alike", x.nearest(0, 8, 0), 0);
        due.be("all alike: all eight changed", x.nearest(0, 8, 1), 8);
        x.note(5, 3, 4);
        due.be("the last", x.nearest(0, 8, 0), 5);
        due.be("the last", x.nearest(0, 8, 1), 7);
        x.note(3, 0, 4);
        due.be("the first of both", x.nearest(0, 8, 0), 3);
    }

    private static void nearestOfNone(Due due) {
        for (int n = 0; n <= 8; n += 8) {
            LostBeforeSung x = told(Made.plain(8, 0), 0, "12341234");
            due.be("no SONGS", x.nearest(0, n, 0), -1);
            due.be("no SONGS", x.nearest(0, n, 1), -1);
            x.song(0, 0);
            due.be("one", x.nearest(0, n, 0), 0);
            due.be("one", x.nearest(0, n, 1), 8);
        }
    }

    private static void areLike(Due due, String tune, String other, int like) {
        LostBeforeSung x = two(tune, other);
        due.be("like " + tune + " " + other, x.like(5, 0), like);
        due.be("like back " + other + " " + tune, x.like(0, 5), like);
        due.be("itself", x.like(5, 5), 8);
    }

    private static void likeTerm(Due due) {
        areLike(due, "00000000", "44444444", 0);
        areLike(due, "01234012", "01234012", 8);
        areLike(due, "01234012", "12340123", 0);
        areLike(due, "10000000", "12222222", 1);
        areLike(due, "00000001", "22222221", 1);
        areLike(due, "01234012", "01244012", 7);
        areLike(due, "01010101", "00000000", 4);
    }

    private static LostBeforeSung threeTunes() {
        LostBeforeSung x = Made.usual();
        x.song(0, 0);
        Made.tune(x, 0, "01234012");
        Made.tune(x, 1, "40123400");
        Made.tune(x, 2, "01234004");
        return x;
    }

    private static void changes(Due due) {
        Made.asked(due, "changes(0, 0)", 0, x -> x.changes(0, 0), TuneSentences::threeTunes);
        Made.asked(due, "changes(0, 1)", 3, x -> x.changes(0, 1), TuneSentences::threeTunes);
        Made.asked(due, "changes(0, 2)", 2, x -> x.changes(0, 2), TuneSentences::threeTunes);
        Made.asked(due, "changes(2, 1)", 2, x -> x.changes(2, 1), TuneSentences::threeTunes);
    }

    private static void changesBad(Due due) {
        for (int v : Made.out(0, 1)) {
            Made.refused(due, "changes(" + v + ", 0)", Made.BAD, x -> x.changes(v, 0));
            Made.refused(due, "changes(0, " + v + ")", Made.BAD, x -> x.changes(0, v));
        }
        Made.refused(due, "no SONGS", Made.BAD, x -> x.changes(0, 0), () -> Made.plain(8, 0));
    }

    private static void join(Due due) {
        Made.asked(due, "join(0, 0)", 8, x -> x.join(0, 0), TuneSentences::threeTunes);
        Made.asked(due, "join(0, 1)", 12, x -> x.join(0, 1), TuneSentences::threeTunes);
        Made.asked(due, "join(1, 0)", 15, x -> x.join(1, 0), TuneSentences::threeTunes);
        Made.asked(due, "join(2, 1)", 15, x -> x.join(2, 1), TuneSentences::threeTunes);
        Made.asked(due, "join(1, 2)", 9, x -> x.join(1, 2), TuneSentences::threeTunes);
        Made.asked(due, "join(2, 0)", 16, x -> x.join(2, 0), TuneSentences::threeTunes);
    }

    private static void joinBad(Due due) {
        for (int v : Made.out(0, 1)) {
            Made.refused(due, "join(" + v + ", 0)", Made.BAD, x -> x.join(v, 0));
            Made.refused(due, "join(0, " + v + ")", Made.BAD, x -> x.join(0, v));
        }
        Made.refused(due, "no SONGS", Made.BAD, x -> x.join(0, 0), () -> Made.plain(8, 0));
    }

    private static void like(Due due) {
        Made.asked(due, "like(1, 1)", 8, x -> x.like(1, 1), TuneSentences::threeTunes);
        Made.asked(due, "like(0, 2)", 6, x -> x.like(0, 2), TuneSentences::threeTunes);
        Made.asked(due, "like(0, 1)", 0, x -> x.like(0, 1), TuneSentences::threeTunes);
        Made.asked(due, "like(2, 1)", 1, x -> x.like(2, 1), TuneSentences::threeTunes);
    }

    private static void likeBad(Due due) {
        for (int v : Made.out(0, 1)) {
            Made.refused(due, "like(" + v + ", 0)", Made.BAD, x -> x.like(v, 0));
            Made.refused(due, "like(0, " + v + ")", Made.BAD, x -> x.like(0, v));
        }
        Made.refused(due, "no SONGS", Made.BAD, x -> x.like(0, 0), () -> Made.plain(8, 0));
    }

    private static void nearest(Due due) {
        // The ROW 1 2 3 4 of bytes, by its first elements, to 40000000 and 00000003.
        int[] song = {0, 0, 0, 1, 0};
        for (int k = 0; k <= 4; k++) {
            int n = k;
            Made.asked(due, "the first " + n, song[n], x -> x.nearest(0, n, 0));
        }
        LostBeforeSung x = four();
        x.row(7, 3, 40);
        for (int i = 0; i < 8; i++) {
            x.set(7, i, 1 + i % 4);
        }
        x.set(7, 8, 99);
        due.be("eight of forty", x.nearest(7, 8, 0), 2);
        due.be("three of forty", x.nearest(7, 3, 0), 2);
        due.be("none of forty", x.nearest(7, 0, 0), 0);
        due.be("refusals", Made.refusals(x), 0);
        LostBeforeSung y = told(four(), 4, "0507");
        due.be("booleans are 1 and 0", y.nearest(0, 4, 0), 0);
        due.be("booleans are 1 and 0", y.nearest(0, 4, 1), 6);
    }

    private static void nearestChanges(Due due) {
        int[] changes = {8, 8, 8, 7, 8};
        for (int k = 0; k <= 4; k++) {
            int n = k;
            Made.asked(due, "the first " + n, changes[n], x -> x.nearest(0, n, 1));
        }
        Made.asked(due, "none", 0, x -> x.nearest(0, 8, 1), () -> told(four(), 0, "12341234"));
        Made.asked(due, "all of them", 8, x -> x.nearest(0, 8, 1), () -> told(Made.plain(0, 1), 0, "11111111"));
    }

    private static void nearestBad(Due due) {
        for (int v : Made.out(0, 7)) {
            Made.refused(due, "nearest(" + v + ", 0, 0)", Made.BAD, x -> x.nearest(v, 0, 0));
        }
        for (int s = 0; s < 3; s++) {
            // A ROW; OTHER and NOTHING come behind BAD.
            int held = s;
            for (int v : Made.out(0, 8)) {
                Made.refused(due, "nearest(" + s + ", " + v + ", 0)", Made.BAD, x -> x.nearest(held, v, 0));
            }
            for (int v : Made.out(0, 1)) {
                Made.refused(due, "nearest(" + s + ", 0, " + v + ")", Made.BAD, x -> x.nearest(held, 0, v));
            }
        }
        Made.refused(due, "what, ahead of STUCK", Made.BAD, x -> x.nearest(3, 2, 2));
    }

    private static void nearestOther(Due due) {
        Made.refused(due, "nearest(1, 0, 0)", Made.OTHER, x -> x.nearest(1, 0, 0));
        Made.refused(due, "nearest(1, 8, 1)", Made.OTHER, x -> x.nearest(1, 8, 1));
        Made.refused(due, "ahead of NONE", Made.OTHER, x -> x.nearest(0, 8, 1), () -> {
            LostBeforeSung x = Made.plain(1, 0);
            x.show(0, 0);
            return x;
        });
    }

    private static void nearestNothing(Due due) {
        Made.refused(due, "nearest(2, 0, 0)", Made.NOTHING, x -> x.nearest(2, 0, 0));
        Made.refused(due, "nearest(7, 8, 1)", Made.NOTHING, x -> x.nearest(7, 8, 1));
        Made.refused(due, "ahead of NONE", Made.NOTHING, x -> x.nearest(0, 0, 0), LostBeforeSung::new);
    }

    private static void nearestFewer(Due due) {
        Made.asked(due, "four of four", 0, x -> x.nearest(0, 4, 0));
        Made.refused(due, "five of four", Made.BAD, x -> x.nearest(0, 5, 0));
        Made.refused(due, "eight of four", Made.BAD, x -> x.nearest(0, 8, 1));
        Made.refused(due, "ahead of STUCK: three of two, and no notes", Made.BAD, x -> x.nearest(3, 3, 0));
        Made.refused(due, "ahead of NONE", Made.BAD, x -> x.nearest(0, 1, 0), () -> told(Made.plain(0, 0), 0, ""));
        LostBeforeSung x = told(four(), 0, "");
        due.be("none of none", x.nearest(0, 0, 1), 8);
        due.be("one of none", x.nearest(0, 1, 1), Made.BAD);
    }

    private static void nearestStuck(Due due) {
        Made.refused(due, "77", Made.STUCK, x -> x.nearest(3, 1, 0));
        Made.refused(due, "77 and -77", Made.STUCK, x -> x.nearest(3, 2, 1));
        Made.asked(due, "they aren't looked at", 8, x -> x.nearest(3, 0, 1));
        LostBeforeSung x = four();
        x.row(0, 3, 8);
        for (int i = 0; i < 8; i += 7) {
            for (long v : new long[] {5, -1, 6, 1L << 32, (1L << 32) + 1, Long.MIN_VALUE, Long.MAX_VALUE}) {
                x.set(0, i, v);
                due.be(v + " at " + i, x.nearest(0, 8, 0), Made.STUCK);
                due.be(v + " at " + i + " isn't looked at", x.nearest(0, i, 0), 0);
            }
            for (int v = 0; v <= 4; v++) {
                x.set(0, i, v);
                due.be(v + " at " + i, x.nearest(0, 8, 0), 0);
            }
            x.set(0, i, 0);
        }
        due.be("STUCK", x.status(15), 14);
        Made.refused(due, "of no SONGS, too", Made.STUCK, y -> y.nearest(0, 1, 0), () -> told(Made.plain(0, 0), 0, "5"));
    }

    private static void nearestNotRefused(Due due) {
        Made.asked(due, "of no SONGS", -1, x -> x.nearest(0, 4, 0), () -> told(Made.plain(8, 0), 0, "1234"));
        Made.asked(due, "of no SONGS", -1, x -> x.nearest(0, 4, 1), () -> told(Made.plain(8, 0), 0, "1234"));
    }
}
