/** Promises 35 to 38: changes, join, like, nearest. */
public final class TuneTest {
    private static final Due DUE = new Due();

    public static void main(String[] args) {
        pairs();
        pairsRefused();
        nearest();
        nearestRefused();
        DUE.end();
    }

    private static LostBeforeSung tunes(String... tunes) {
        LostBeforeSung x = new LostBeforeSung();
        for (int s = 0; s < tunes.length; s++) {
            x.song(0, 0);
            for (int i = 0; i < 8; i++) {
                x.note(s, i, tunes[s].charAt(i) - '0');
            }
        }
        return x;
    }

    /** The first one's and the other's tune, then changes, join and like from the first and from the other. */
    private static void pair(String tune, String other, int changes, int join, int joinBack, int like) {
        LostBeforeSung x = tunes(tune, other);
        String both = tune + " " + other;
        DUE.be("changes " + both, x.changes(0, 1), changes);
        DUE.be("changes back " + both, x.changes(1, 0), changes);
        DUE.be("join " + both, x.join(0, 1), join);
        DUE.be("join back " + both, x.join(1, 0), joinBack);
        DUE.be("like " + both, x.like(0, 1), like);
        DUE.be("like back " + both, x.like(1, 0), like);
        DUE.be("changes to itself", x.changes(1, 1), 0);
        DUE.be("join to itself", x.join(1, 1), 8);
        DUE.be("like itself", x.like(1, 1), 8);
    }

    private static void pairs() {
        pair("00000000", "00000000", 0, 8, 8, 8);
        pair("00000000", "11111111", 8, 16, 16, 0);
        pair("01234012", "12340123", 2, 9, 12, 0);
        pair("01010101", "10101010", 2, 9, 9, 0);
        pair("00001111", "11110000", 8, 12, 12, 0);
        pair("01234321", "01244321", 1, 16, 16, 7);
        pair("00000001", "10000000", 2, 15, 9, 6);
        pair("12312344", "23123441", 2, 9, 15, 1);
    }

    private static void pairsRefused() {
        LostBeforeSung x = tunes("00000000", "00000000");
        int[] bad = {x.changes(2, 0), x.changes(0, 2), x.changes(-1, 0), x.changes(0, -1), x.join(2, 0), x.join(0, 2),
            x.join(-1, 0), x.join(0, -1), x.like(2, 0), x.like(0, 2), x.like(-1, 0), x.like(0, -1)};
        for (int b : bad) {
            DUE.be("bad", b, -2);
        }
        DUE.be("status(12)", x.status(12), bad.length);
    }

    private static void told(LostBeforeSung x, int sort, int... notes) {
        x.row(0, sort, notes.length);
        for (int i = 0; i < notes.length; i++) {
            x.set(0, i, notes[i]);
        }
    }

    private static void nearest() {
        LostBeforeSung x = tunes("00000000", "11112222", "12341234", "11112222");
        told(x, 0, 1, 1, 1, 1, 2, 2, 2, 2);
        DUE.be("the first of alike ones", x.nearest(0, 8, 0), 1);
        DUE.be("the CHANGES", x.nearest(0, 8, 1), 0);
        told(x, 3, 1, 2, 3, 4, 1, 2, 3);
        DUE.be("one note fewer", x.nearest(0, 7, 0), 2);
        DUE.be("one note fewer", x.nearest(0, 7, 1), 1);
        // 1 2 3 to 12341234: five put in; to 11112222: six or more.
        DUE.be("only the first three", x.nearest(0, 3, 0), 2);
        DUE.be("only the first three", x.nearest(0, 3, 1), 5);
        DUE.be("no notes: all alike", x.nearest(0, 0, 0), 0);
        DUE.be("no notes: all put in", x.nearest(0, 0, 1), 8);
        told(x, 4, 0, 5, 0, 7);
        // Booleans are 0 1 0 1: 00000000 takes 6; 11112222 and 12341234 two ones of it at best.
        DUE.be("booleans are notes 1 and 0", x.nearest(0, 4, 0), 0);
        DUE.be("booleans are notes 1 and 0", x.nearest(0, 4, 1), 6);
        x.row(0, 2, 40);
        DUE.be("a longer ROW", x.nearest(0, 8, 0), 0);
    }

    private static void nearestRefused() {
        LostBeforeSung x = tunes();
        DUE.be("NOTHING", x.nearest(0, 0, 0), -4);
        x.person(0, 0, 0, 0);
        x.show(1, 0);
        DUE.be("OTHER", x.nearest(1, 8, 0), -3);
        told(x, 3, 4, 5, -1, 0);
        DUE.be("no SONGS", x.nearest(0, 1, 0), -1);
        DUE.be("no SONGS", x.nearest(0, 1, 1), -1);
        DUE.be("STUCK: no note 5", x.nearest(0, 2, 0), -5);
        x.song(0, 0);
        DUE.be("the second isn't looked at", x.nearest(0, 1, 1), 8);
        DUE.be("STUCK: no note 5", x.nearest(0, 2, 0), -5);
        x.set(0, 1, 0);
        DUE.be("STUCK: no note -1", x.nearest(0, 3, 0), -5);
        x.set(0, 1, 1L << 32);
        DUE.be("STUCK: no note 2^32", x.nearest(0, 2, 0), -5);
        DUE.be("BAD: fewer elements, ahead of STUCK", x.nearest(0, 5, 0), -2);
        int[] bad = {x.nearest(0, 9, 0), x.nearest(0, -1, 0), x.nearest(0, 0, 2), x.nearest(0, 0, -1),
            x.nearest(8, 0, 0), x.nearest(-1, 0, 0), x.nearest(1, 9, 0), x.nearest(2, 0, 2)};
        for (int b : bad) {
            DUE.be("bad", b, -2);
        }
        DUE.be("status(12)", x.status(12), bad.length + 1);
        DUE.be("status(13)", x.status(13), 1);
        DUE.be("status(14)", x.status(14), 1);
        DUE.be("status(15)", x.status(15), 4);
    }
}
