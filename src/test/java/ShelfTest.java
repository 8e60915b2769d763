/** Promises 2 to 8: row, set, copy, element, holds, show, says. */
public final class ShelfTest {
    private static final Due DUE = new Due();

    public static void main(String[] args) {
        rows();
        elements();
        lowestBits();
        copies();
        copiesRefused();
        shows();
        saysByKind();
        DUE.end();
    }

    private static void rows() {
        LostBeforeSung x = new LostBeforeSung();
        DUE.be("row(0, 0, 0)", x.row(0, 0, 0), 1);
        DUE.be("row(7, 4, 40)", x.row(7, 4, 40), 1);
        DUE.be("holds(0)", x.holds(0), 0);
        DUE.be("holds(7)", x.holds(7), 4);
        DUE.be("holds(8)", x.holds(8), -1);
        DUE.be("holds(-1)", x.holds(-1), -1);
        int[][] bad = {{8, 0, 1}, {-1, 0, 1}, {0, 5, 1}, {0, -1, 1}, {0, 0, 41}, {0, 0, -1},
            {Integer.MAX_VALUE, 0, 1}, {0, 0, Integer.MIN_VALUE}};
        for (int[] b : bad) {
            DUE.be("row bad", x.row(b[0], b[1], b[2]), -2);
        }
        DUE.be("status(12)", x.status(12), bad.length);
        DUE.be("holds(0) as ahead", x.holds(0), 0);
        DUE.be("status(7)", x.status(7), 2);
    }

    private static void elements() {
        LostBeforeSung x = new LostBeforeSung();
        DUE.be("set on NOTHING", x.set(0, 0, 1), -4);
        x.row(0, 3, 2);
        DUE.be("element(0, 1)", x.element(0, 1), 0);
        DUE.be("set(0, 1, 5)", x.set(0, 1, 5), 1);
        DUE.be("element(0, 1)", x.element(0, 1), 5);
        DUE.be("element(0, 0)", x.element(0, 0), 0);
        DUE.be("set i -1", x.set(0, -1, 5), -2);
        DUE.be("set i 2", x.set(0, 2, 5), -2);
        DUE.be("set s 8", x.set(8, 0, 5), -2);
        DUE.be("set s -1", x.set(-1, 0, 5), -2);
        DUE.be("element i 2", x.element(0, 2), 0);
        DUE.be("element i -1", x.element(0, -1), 0);
        DUE.be("element s 8", x.element(8, 0), 0);
        DUE.be("element s -1", x.element(-1, 0), 0);
        DUE.be("element of NOTHING", x.element(1, 0), 0);
        x.person(0, 0, 0, 0);
        x.show(1, 0);
        DUE.be("element of one of the PEOPLE", x.element(1, 0), 0);
        DUE.be("set OTHER ahead of BAD i", x.set(1, 99, 5), -3);
        x.row(0, 3, 3);
        DUE.be("a new ROW is 0", x.element(0, 1), 0);
        DUE.be("status(12)", x.status(12), 4);
        DUE.be("status(13)", x.status(13), 1);
        DUE.be("status(14)", x.status(14), 1);
    }

    private static void lowestBits() {
        LostBeforeSung x = new LostBeforeSung();
        long[] put = {200, 40000, 3000000000L, Long.MIN_VALUE, 256};
        long[] kept = {-56, -25536, -1294967296, Long.MIN_VALUE, 1};
        for (int sort = 0; sort < 5; sort++) {
            x.row(sort, sort, 2);
            x.set(sort, 0, put[sort]);
            DUE.be("element of sort " + sort, x.element(sort, 0), kept[sort]);
            x.set(sort, 1, -1);
            DUE.be("-1 of sort " + sort, x.element(sort, 1), sort == 4 ? 1 : -1);
            x.set(sort, 1, 0);
            DUE.be("0 of sort " + sort, x.element(sort, 1), 0);
        }
        x.set(4, 0, 1L << 40);
        DUE.be("a boolean of a high bit alone", x.element(4, 0), 1);
        x.set(2, 0, 1L << 40);
        DUE.be("an int of a high bit alone", x.element(2, 0), 0);
    }

    private static void copies() {
        LostBeforeSung x = new LostBeforeSung();
        x.row(0, 2, 4);
        x.row(1, 2, 3);
        for (int i = 0; i < 4; i++) {
            x.set(0, i, 10 + i);
        }
        DUE.be("copy(0, 1, 1, 0, 3)", x.copy(0, 1, 1, 0, 3), 3);
        DUE.be("element(1, 0)", x.element(1, 0), 11);
        DUE.be("element(1, 2)", x.element(1, 2), 13);
        DUE.be("copy(0, 0, 0, 1, 3)", x.copy(0, 0, 0, 1, 3), 3);
        int[] right = {10, 10, 11, 12};
        for (int i = 0; i < 4; i++) {
            DUE.be("as they were " + i, x.element(0, i), right[i]);
        }
        DUE.be("copy(0, 0, 1, 0, 3)", x.copy(0, 0, 1, 0, 3), 3);
        int[] left = {10, 11, 12, 12};
        for (int i = 0; i < 4; i++) {
            DUE.be("back again " + i, x.element(0, i), left[i]);
        }
        DUE.be("none from the end", x.copy(0, 1, 4, 3, 0), 0);
        DUE.be("none behind the end", x.copy(0, 1, 5, 3, 0), -2);
    }

    private static void copiesRefused() {
        LostBeforeSung x = new LostBeforeSung();
        x.person(0, 0, 0, 0);
        x.show(2, 0);
        x.row(0, 2, 4);
        x.row(1, 3, 4);
        x.row(4, 2, 4);
        DUE.be("copy p 8", x.copy(8, 0, 0, 0, 0), -2);
        DUE.be("copy p -1", x.copy(-1, 0, 0, 0, 0), -2);
        DUE.be("copy q 8", x.copy(0, 8, 0, 0, 0), -2);
        DUE.be("copy q -1, from a person", x.copy(2, -1, 0, 0, 0), -2);
        DUE.be("two SORTS", x.copy(0, 1, 0, 0, 0), -3);
        DUE.be("from a person", x.copy(2, 0, 0, 0, 0), -3);
        DUE.be("to a person", x.copy(0, 2, 0, 0, 0), -3);
        DUE.be("from a person to NOTHING", x.copy(2, 3, 0, 0, 0), -3);
        DUE.be("from NOTHING to a person", x.copy(3, 2, 0, 0, 0), -3);
        DUE.be("from NOTHING", x.copy(3, 0, 0, 0, 0), -4);
        DUE.be("to NOTHING, BAD n", x.copy(0, 3, 0, 0, -1), -4);
        DUE.be("NOTHING twice", x.copy(3, 5, 0, 0, 0), -4);
        int[][] bad = {{-1, 0, 1}, {0, -1, 1}, {0, 0, -1}, {0, 0, 5}, {1, 0, 4}, {0, 1, 4}, {5, 0, 0}, {0, 5, 0},
            {Integer.MAX_VALUE, 0, 1}, {1, 1, Integer.MAX_VALUE}, {Integer.MIN_VALUE, 0, Integer.MIN_VALUE}};
        for (int[] b : bad) {
            DUE.be("copy bad", x.copy(0, 4, b[0], b[1], b[2]), -2);
        }
        DUE.be("status(12)", x.status(12), 4 + bad.length);
        DUE.be("status(13)", x.status(13), 5);
        DUE.be("status(14)", x.status(14), 3);
    }

    private static void shows() {
        LostBeforeSung x = new LostBeforeSung();
        DUE.be("show nobody there", x.show(0, 0), -2);
        x.person(0, 0, 0, 0);
        x.person(1, 0, 0, 0);
        DUE.be("show(0, 1)", x.show(0, 1), 1);
        DUE.be("holds(0)", x.holds(0), 11);
        DUE.be("show(7, 0)", x.show(7, 0), 1);
        DUE.be("holds(7)", x.holds(7), 10);
        DUE.be("show(0, 2)", x.show(0, 2), -2);
        DUE.be("show(0, -2)", x.show(0, -2), -2);
        DUE.be("show(8, 0)", x.show(8, 0), -2);
        DUE.be("show(-1, -1)", x.show(-1, -1), -2);
        DUE.be("holds(0)", x.holds(0), 11);
        DUE.be("status(7)", x.status(7), 2);
        DUE.be("show(0, NONE)", x.show(0, -1), 1);
        DUE.be("holds(0)", x.holds(0), -1);
        DUE.be("status(7)", x.status(7), 1);
        x.row(7, 1, 1);
        DUE.be("a ROW instead", x.holds(7), 1);
    }

    private static void saysByKind() {
        LostBeforeSung x = new LostBeforeSung();
        // MEMORY 9, GRIEF 1: an islander's HOLD on what is of HARD 0 is 8; a is 3, WORK 3.
        int[] own = {8, 5, 5, 3, 10, 16};
        boolean[][] is = {
            {true, false, false, false, false, false}, {true, true, false, false, false, false},
            {true, false, true, false, false, false}, {true, true, false, true, false, false},
            {true, false, true, false, true, false}, {true, false, false, false, false, true}};
        for (int kind = 0; kind < 6; kind++) {
            x.person(kind, 3, 9, 1);
            x.show(kind, kind);
            for (int as = 0; as < 6; as++) {
                DUE.be("says of " + kind + " as " + as, x.says(kind, as), !is[kind][as] ? -3 : as == 0 ? 9 : own[kind]);
            }
        }
        DUE.be("status(13)", x.status(13), 23);
        x.row(6, 0, 40);
        DUE.be("a ROW says", x.says(6, 0), -3);
        DUE.be("NOTHING says", x.says(7, 0), -4);
        DUE.be("says(8, 0)", x.says(8, 0), -2);
        DUE.be("says(-1, 0)", x.says(-1, 0), -2);
        DUE.be("says(7, 6), BAD ahead of NOTHING", x.says(7, 6), -2);
        DUE.be("says(6, -1), BAD ahead of OTHER", x.says(6, -1), -2);
        x.give(1, 0, 2);
        DUE.be("says what he is now", x.says(1, 0), 2);
        DUE.be("says 0 at least", x.says(1, 1), 0);
    }
}
