/** Promises 1 to 8, sentence by sentence: a new object, row, set, copy, element, holds, show, says. */
final class ShelfSentences {
    private ShelfSentences() {
    }

    static void all(Sentences t) {
        t.of(1, "Nobody,", ShelfSentences::nobody);
        t.of(1, "no SONGS;", ShelfSentences::noSongs);
        t.of(1, "SHELVES hold NOTHING;", ShelfSentences::emptyShelves);
        t.of(1, "THE TAPE is empty.", ShelfSentences::emptyTape);
        t.of(2, "SHELF s holds a new ROW: 1.", ShelfSentences::newRow);
        t.of(2, "BAD.", ShelfSentences::rowBad);
        t.of(3, "Element i of the ROW in SHELF s becomes v: 1.", ShelfSentences::setElement);
        t.of(3, "BAD SHELF;", ShelfSentences::setBadShelf);
        t.of(3, "OTHER;", ShelfSentences::setOther);
        t.of(3, "NOTHING;", ShelfSentences::setNothing);
        t.of(3, "BAD i.", ShelfSentences::setBadPlace);
        t.of(4, "n elements of the ROW in SHELF p from place i on come to places j on of that in q",
            ShelfSentences::copied);
        t.of(4, "(as they were): n.", ShelfSentences::copiedAsTheyWere);
        t.of(4, "BAD SHELVES;", ShelfSentences::copyBadShelves);
        t.of(4, "OTHER (also ROWS of two SORTS, if both hold something);", ShelfSentences::copyOther);
        t.of(4, "NOTHING;", ShelfSentences::copyNothing);
        t.of(4, "BAD the others.", ShelfSentences::copyBadOthers);
        t.of(5, "Element i of the ROW;", ShelfSentences::elementOfRow);
        t.of(5, "0: none,", ShelfSentences::noElement);
        t.of(5, "no ROW", ShelfSentences::noRow);
        t.of(5, "(nothing is refused).", ShelfSentences::elementNeverRefused);
        t.of(6, "What SHELF s holds: NONE NOTHING,", ShelfSentences::holdsNothing);
        t.of(6, "no SHELF;", ShelfSentences::holdsNoShelf);
        t.of(6, "0 to 4 a ROW by its SORT;", ShelfSentences::holdsSort);
        t.of(6, "10 and the number of one of the PEOPLE.", ShelfSentences::holdsPerson);
        t.of(7, "SHELF s holds one of the PEOPLE,", ShelfSentences::showPerson);
        t.of(7, "or NOTHING (person NONE): 1.", ShelfSentences::showNothing);
        t.of(7, "BAD.", ShelfSentences::showBad);
        t.of(8, "What the one in SHELF s, taken for one of a KIND, says: ISLANDER his MEMORY;", ShelfSentences::saysMemory);
        t.of(8, "DRINKER, SAILOR, WORKER, MAKER, CHILD his HOLD on a SONG of HARD 0, by his own KIND.",
            ShelfSentences::saysHold);
        t.of(8, "BAD SHELF, KIND;", ShelfSentences::saysBad);
        t.of(8, "OTHER (also if he is of no such KIND nor of one under it);", ShelfSentences::saysOther);
        t.of(8, "NOTHING.", ShelfSentences::saysNothing);
    }

    private static void nobody(Due due) {
        Made.asked(due, "status(0)", 0, x -> x.status(0), LostBeforeSung::new);
        Made.asked(due, "finder()", -1, x -> x.finder(), LostBeforeSung::new);
        Made.refused(due, "personOf(0, 0)", Made.BAD, x -> x.personOf(0, 0), LostBeforeSung::new);
        Made.plain(8, 6);
        due.be("another object's people", new LostBeforeSung().status(0), 0);
    }

    private static void noSongs(Due due) {
        Made.asked(due, "status(1)", 0, x -> x.status(1), LostBeforeSung::new);
        Made.asked(due, "most(0)", -1, x -> x.most(0), LostBeforeSung::new);
        Made.asked(due, "songs(1)", 0, x -> x.songs(1), LostBeforeSung::new);
        Made.refused(due, "songOf(0, 0)", Made.BAD, x -> x.songOf(0, 0), LostBeforeSung::new);
        due.be("another object's songs", new LostBeforeSung().status(1), 0);
    }

    private static void emptyShelves(Due due) {
        for (int k = 0; k < 8; k++) {
            int s = k;
            Made.asked(due, "holds(" + s + ")", -1, x -> x.holds(s), LostBeforeSung::new);
            Made.refused(due, "set(" + s + ", 0, 1)", Made.NOTHING, x -> x.set(s, 0, 1), LostBeforeSung::new);
        }
        Made.asked(due, "status(7)", 0, x -> x.status(7), LostBeforeSung::new);
    }

    private static void emptyTape(Due due) {
        Made.asked(due, "status(5)", 0, x -> x.status(5), LostBeforeSung::new);
        Made.asked(due, "wipe()", 0, x -> x.wipe(), LostBeforeSung::new);
        due.be("the first byte makes 1", new LostBeforeSung().feed(0), 1);
    }

    private static void newRow(Due due) {
        LostBeforeSung x = Made.plain(1, 0);
        for (int s = 0; s < 8; s++) {
            due.be("row(" + s + ")", x.row(s, s % 5, s == 0 ? 40 : s), 1);
        }
        for (int s = 0; s < 8; s++) {
            due.be("holds(" + s + ")", x.holds(s), s % 5);
        }
        due.be("the last of 40", x.set(0, 39, 9), 1);
        due.be("over a ROW", x.row(0, 3, 40), 1);
        due.be("its SORT", x.holds(0), 3);
        due.be("the last is 0 anew", x.element(0, 39), 0);
        x.set(1, 0, 5);
        due.be("of no elements", x.row(0, 0, 0), 1);
        due.be("of no elements", x.set(0, 0, 1), Made.BAD);
        due.be("another SHELF's stays", x.element(1, 0), 5);
        x.show(2, 0);
        due.be("over one of the PEOPLE", x.row(2, 1, 1), 1);
        due.be("its SORT", x.holds(2), 1);
        due.be("its element", x.element(2, 0), 0);
    }

    private static void rowBad(Due due) {
        Made.taken(due, "row(0, 0, 0)", 1, x -> x.row(0, 0, 0));
        Made.taken(due, "row(7, 4, 40)", 1, x -> x.row(7, 4, 40));
        for (int v : Made.out(0, 7)) {
            Made.refused(due, "row(" + v + ", 0, 1)", Made.BAD, x -> x.row(v, 0, 1));
        }
        for (int v : Made.out(0, 4)) {
            Made.refused(due, "row(3, " + v + ", 1)", Made.BAD, x -> x.row(3, v, 1));
        }
        for (int v : Made.out(0, 40)) {
            Made.refused(due, "row(3, 0, " + v + ")", Made.BAD, x -> x.row(3, 0, v));
        }
    }

    private static void setElement(Due due) {
        LostBeforeSung x = new LostBeforeSung();
        x.row(7, 3, 40);
        x.row(6, 3, 40);
        due.be("the first", x.set(7, 0, Long.MIN_VALUE), 1);
        due.be("the last", x.set(7, 39, Long.MAX_VALUE), 1);
        due.be("the first", x.element(7, 0), Long.MIN_VALUE);
        due.be("beside the first", x.element(7, 1), 0);
        due.be("beside the last", x.element(7, 38), 0);
        due.be("the last", x.element(7, 39), Long.MAX_VALUE);
        due.be("another SHELF's", x.element(6, 0), 0);
        due.be("once more", x.set(7, 39, 0), 1);
        due.be("once more", x.element(7, 39), 0);
    }

    private static void setBadShelf(Due due) {
        for (int v : Made.out(0, 7)) {
            Made.refused(due, "set(" + v + ", 0, 1)", Made.BAD, x -> x.set(v, 0, 1));
        }
    }

    private static void setOther(Due due) {
        Made.refused(due, "set(1, 0, 1)", Made.OTHER, x -> x.set(1, 0, 1));
        Made.refused(due, "ahead of BAD i", Made.OTHER, x -> x.set(1, -1, 1));
    }

    private static void setNothing(Due due) {
        Made.refused(due, "set(2, 0, 1)", Made.NOTHING, x -> x.set(2, 0, 1));
        Made.refused(due, "ahead of BAD i", Made.NOTHING, x -> x.set(2, 40, 1));
        LostBeforeSung x = Made.usual();
        x.show(0, -1);
        due.be("a ROW is there no more", x.set(0, 0, 1), Made.NOTHING);
    }

    private static void setBadPlace(Due due) {
        Made.taken(due, "set(0, 0, 9)", 1, x -> x.set(0, 0, 9));
        Made.taken(due, "set(0, 3, 9)", 1, x -> x.set(0, 3, 9));
        for (int v : Made.out(0, 3)) {
            Made.refused(due, "set(0, " + v + ", 9)", Made.BAD, x -> x.set(0, v, 9));
        }
        for (int v : Made.out(0, 1)) {
            Made.refused(due, "set(3, " + v + ", 9)", Made.BAD, x -> x.set(3, v, 9));
        }
        LostBeforeSung x = new LostBeforeSung();
        x.row(0, 0, 40);
        due.be("behind 40", x.set(0, 40, 1), Made.BAD);
        x.row(0, 0, 5);
        due.be("behind 5, where 40 were", x.set(0, 5, 1), Made.BAD);
    }

    /** Two rows of longs: 10 to 14 and 20 to 24. */
    private static LostBeforeSung twoRows() {
        LostBeforeSung x = new LostBeforeSung();
        Made.row(x, 0, 3, 10, 11, 12, 13, 14);
        Made.row(x, 7, 3, 20, 21, 22, 23, 24);
        return x;
    }

    private static void are(Due due, LostBeforeSung x, int s, long... elements) {
        for (int i = 0; i < elements.length; i++) {
            due.be("element(" + s + ", " + i + ")", x.element(s, i), elements[i]);
        }
    }

    private static void copied(Due due) {
        LostBeforeSung x = twoRows();
        due.be("two from 1 to 3", x.copy(0, 7, 1, 3, 2), 2);
        are(due, x, 7, 20, 21, 22, 11, 12);
        are(due, x, 0, 10, 11, 12, 13, 14);
        due.be("one from the last to the first", x.copy(0, 7, 4, 0, 1), 1);
        are(due, x, 7, 14, 21, 22, 11, 12);
        due.be("none", x.copy(0, 7, 0, 0, 0), 0);
        are(due, x, 7, 14, 21, 22, 11, 12);
        due.be("all", x.copy(7, 0, 0, 0, 5), 5);
        are(due, x, 0, 14, 21, 22, 11, 12);
        for (int sort = 0; sort < 5; sort++) {
            x.row(1, sort, 40);
            x.row(2, sort, 40);
            x.set(1, 39, 1);
            due.be("forty of SORT " + sort, x.copy(1, 2, 0, 0, 40), 40);
            due.be("the last", x.element(2, 39), 1);
        }
    }

    private static void copiedAsTheyWere(Due due) {
        LostBeforeSung x = twoRows();
        due.be("one place on", x.copy(0, 0, 0, 1, 4), 4);
        are(due, x, 0, 10, 10, 11, 12, 13);
        x = twoRows();
        due.be("one place back", x.copy(0, 0, 1, 0, 4), 4);
        are(due, x, 0, 11, 12, 13, 14, 14);
        x = twoRows();
        due.be("to the same places", x.copy(0, 0, 0, 0, 5), 5);
        are(due, x, 0, 10, 11, 12, 13, 14);
    }

    private static void copyBadShelves(Due due) {
        for (int v : Made.out(0, 7)) {
            Made.refused(due, "copy(" + v + ", 0, 0, 0, 0)", Made.BAD, x -> x.copy(v, 0, 0, 0, 0));
            Made.refused(due, "copy(0, " + v + ", 0, 0, 0)", Made.BAD, x -> x.copy(0, v, 0, 0, 0));
            Made.refused(due, "ahead of OTHER", Made.BAD, x -> x.copy(1, v, 0, 0, 0));
            Made.refused(due, "ahead of OTHER", Made.BAD, x -> x.copy(v, 1, 0, 0, 0));
            Made.refused(due, "ahead of NOTHING", Made.BAD, x -> x.copy(2, v, 0, 0, 0));
            Made.refused(due, "ahead of NOTHING", Made.BAD, x -> x.copy(v, 2, 0, 0, 0));
        }
    }

    private static void copyOther(Due due) {
        Made.refused(due, "from one of the PEOPLE", Made.OTHER, x -> x.copy(1, 0, 0, 0, 1));
        Made.refused(due, "to one of the PEOPLE", Made.OTHER, x -> x.copy(0, 1, 0, 0, 1));
        Made.refused(due, "from a person to himself", Made.OTHER, x -> x.copy(1, 1, 0, 0, 0));
        Made.refused(due, "bytes to ints", Made.OTHER, x -> x.copy(0, 3, 0, 0, 1));
        Made.refused(due, "ints to bytes", Made.OTHER, x -> x.copy(3, 0, 0, 0, 0));
        Made.refused(due, "ahead of NOTHING, from a person", Made.OTHER, x -> x.copy(1, 2, 0, 0, 0));
        Made.refused(due, "ahead of NOTHING, to a person", Made.OTHER, x -> x.copy(2, 1, 0, 0, 0));
        Made.refused(due, "ahead of BAD the others", Made.OTHER, x -> x.copy(0, 3, 0, 0, 41));
        Made.refused(due, "ahead of BAD the others", Made.OTHER, x -> x.copy(1, 0, -1, 0, 0));
        Made.refused(due, "if both hold something: from NOTHING", Made.NOTHING, x -> x.copy(2, 3, 0, 0, 0));
        Made.refused(due, "if both hold something: to NOTHING", Made.NOTHING, x -> x.copy(3, 2, 0, 0, 0));
        for (int sort = 0; sort < 5; sort++) {
            for (int other = 0; other < 5; other++) {
                LostBeforeSung x = new LostBeforeSung();
                x.row(0, sort, 1);
                x.row(1, other, 1);
                due.be("SORT " + sort + " to " + other, x.copy(0, 1, 0, 0, 1), sort == other ? 1 : Made.OTHER);
            }
        }
    }

    private static void copyNothing(Due due) {
        Made.refused(due, "from NOTHING", Made.NOTHING, x -> x.copy(2, 0, 0, 0, 0));
        Made.refused(due, "to NOTHING", Made.NOTHING, x -> x.copy(0, 2, 0, 0, 0));
        Made.refused(due, "from NOTHING to NOTHING", Made.NOTHING, x -> x.copy(2, 5, 0, 0, 0));
        Made.refused(due, "ahead of BAD the others", Made.NOTHING, x -> x.copy(2, 0, -1, 0, 0));
        Made.refused(due, "ahead of BAD the others", Made.NOTHING, x -> x.copy(0, 2, 0, 0, 41));
    }

    /** SHELF 0 has 4 bytes, SHELF 4 has 3. */
    private static void copyBadOthers(Due due) {
        Made.taken(due, "copy(0, 4, 1, 0, 3)", 3, x -> x.copy(0, 4, 1, 0, 3));
        Made.taken(due, "copy(0, 4, 3, 2, 1)", 1, x -> x.copy(0, 4, 3, 2, 1));
        Made.taken(due, "copy(0, 4, 3, 2, 0)", 0, x -> x.copy(0, 4, 3, 2, 0));
        int[][] bad = {{-1, 0, 1}, {0, -1, 1}, {0, 0, -1}, {2, 0, 3}, {0, 1, 3}, {4, 0, 1}, {0, 3, 1}, {0, 0, 4},
            {5, 0, 0}, {0, 4, 0}, {Made.LEAST, 0, 1}, {0, Made.LEAST, 1}, {0, 0, Made.LEAST}, {Made.MOST, 0, 1},
            {0, Made.MOST, 1}, {0, 0, Made.MOST}, {1, 0, Made.MOST}, {0, 1, Made.MOST}, {Made.MOST, 0, Made.MOST},
            {Made.LEAST, 0, Made.LEAST}, {1, 1, -1}, {Made.MOST, Made.MOST, 2}, {Made.LEAST, 0, 0}};
        for (int[] b : bad) {
            String call = "copy(0, 4, " + b[0] + ", " + b[1] + ", " + b[2] + ")";
            Made.refused(due, call, Made.BAD, x -> x.copy(0, 4, b[0], b[1], b[2]));
        }
        LostBeforeSung x = new LostBeforeSung();
        x.row(0, 0, 40);
        x.row(1, 0, 40);
        due.be("41 of 40", x.copy(0, 1, 0, 0, 41), Made.BAD);
        due.be("40 from 1 on", x.copy(0, 1, 1, 0, 40), Made.BAD);
        due.be("40 to 1 on", x.copy(0, 1, 0, 1, 40), Made.BAD);
    }

    private static void elementOfRow(Due due) {
        LostBeforeSung x = new LostBeforeSung();
        for (int s = 0; s < 8; s++) {
            x.row(s, 3, 40);
            x.set(s, 0, s + 1);
            x.set(s, 39, -s - 1L << 40);
        }
        for (int k = 0; k < 8; k++) {
            due.be("the first", x.element(k, 0), k + 1);
            due.be("the last", x.element(k, 39), -k - 1L << 40);
            due.be("between", x.element(k, 38), 0);
        }
    }

    private static void noElement(Due due) {
        Made.asked(due, "element(0, 3)", 4, x -> x.element(0, 3));
        for (int v : Made.out(0, 3)) {
            Made.asked(due, "element(0, " + v + ")", 0, x -> x.element(0, v));
        }
        LostBeforeSung x = new LostBeforeSung();
        Made.row(x, 0, 3, 1, 2, 3);
        Made.row(x, 0, 3, 4);
        due.be("of the ROW that was there", x.element(0, 1), 0);
    }

    private static void noRow(Due due) {
        Made.asked(due, "of one of the PEOPLE", 0, x -> x.element(1, 0));
        Made.asked(due, "of NOTHING", 0, x -> x.element(2, 0));
        for (int v : Made.out(0, 7)) {
            Made.asked(due, "element(" + v + ", 0)", 0, x -> x.element(v, 0));
        }
        LostBeforeSung x = Made.usual();
        x.show(0, -1);
        due.be("of a ROW that is gone", x.element(0, 0), 0);
        x.show(3, 0);
        due.be("of a ROW that is gone for a person", x.element(3, 0), 0);
    }

    private static void elementNeverRefused(Due due) {
        LostBeforeSung x = new LostBeforeSung();
        Made.row(x, 0, 0, 7);
        int[] any = {Made.LEAST, -1, 0, 1, 7, 8, 39, 40, Made.MOST};
        for (int s : any) {
            for (int i : any) {
                due.be("element(" + s + ", " + i + ")", x.element(s, i), s == 0 && i == 0 ? 7 : 0);
            }
        }
        due.be("refusals", Made.refusals(x), 0);
    }

    private static void holdsNothing(Due due) {
        Made.asked(due, "holds(2)", -1, x -> x.holds(2));
        LostBeforeSung x = Made.usual();
        x.show(0, -1);
        x.show(1, -1);
        due.be("a ROW no more", x.holds(0), -1);
        due.be("a person no more", x.holds(1), -1);
    }

    private static void holdsNoShelf(Due due) {
        for (int v : Made.out(0, 7)) {
            Made.asked(due, "holds(" + v + ")", -1, x -> x.holds(v), ShelfSentences::allRows);
        }
    }

    private static LostBeforeSung allRows() {
        LostBeforeSung x = new LostBeforeSung();
        for (int s = 0; s < 8; s++) {
            x.row(s, s % 5, 1);
        }
        return x;
    }

    private static void holdsSort(Due due) {
        for (int k = 0; k < 8; k++) {
            int s = k;
            Made.asked(due, "holds(" + s + ")", s % 5, x -> x.holds(s), ShelfSentences::allRows);
        }
        LostBeforeSung x = allRows();
        x.row(7, 0, 0);
        due.be("of no elements", x.holds(7), 0);
    }

    private static void holdsPerson(Due due) {
        LostBeforeSung x = Made.plain(8, 0);
        for (int s = 0; s < 8; s++) {
            x.show(s, 7 - s);
        }
        for (int s = 0; s < 8; s++) {
            due.be("holds(" + s + ")", x.holds(s), 17 - s);
        }
        due.be("refusals", Made.refusals(x), 0);
    }

    private static void showPerson(Due due) {
        LostBeforeSung x = Made.plain(8, 0);
        due.be("the first in the first", x.show(0, 0), 1);
        due.be("the last in the last", x.show(7, 7), 1);
        due.be("the same in two", x.show(3, 7), 1);
        due.be("holds(0)", x.holds(0), 10);
        due.be("holds(7)", x.holds(7), 17);
        due.be("holds(3)", x.holds(3), 17);
        due.be("another instead", x.show(3, 1), 1);
        due.be("holds(3)", x.holds(3), 11);
        x.row(4, 0, 2);
        due.be("over a ROW", x.show(4, 2), 1);
        due.be("holds(4)", x.holds(4), 12);
        due.be("the ROW is gone", x.set(4, 0, 1), Made.OTHER);
        due.be("status(7)", x.status(7), 4);
    }

    private static void showNothing(Due due) {
        Made.taken(due, "of a person", 1, x -> x.show(1, -1));
        Made.taken(due, "of a ROW", 1, x -> x.show(0, -1));
        Made.taken(due, "of NOTHING", 1, x -> x.show(2, -1));
        Made.taken(due, "if nobody is there", 1, x -> x.show(7, -1), LostBeforeSung::new);
        LostBeforeSung x = Made.usual();
        x.show(1, -1);
        x.show(0, -1);
        due.be("holds(1)", x.holds(1), -1);
        due.be("holds(0)", x.holds(0), -1);
        due.be("status(7)", x.status(7), 2);
        due.be("a ROW there anew", x.row(0, 0, 4), 1);
        due.be("is a new one", x.element(0, 0), 0);
    }

    private static void showBad(Due due) {
        for (int v : Made.out(0, 7)) {
            Made.refused(due, "show(" + v + ", 0)", Made.BAD, x -> x.show(v, 0));
            Made.refused(due, "show(" + v + ", -1)", Made.BAD, x -> x.show(v, -1));
        }
        Made.taken(due, "show(0, 2)", 1, x -> x.show(0, 2));
        for (int v : Made.out(-1, 2)) {
            Made.refused(due, "show(0, " + v + ")", Made.BAD, x -> x.show(0, v));
        }
        Made.refused(due, "nobody is there", Made.BAD, x -> x.show(0, 0), LostBeforeSung::new);
        Made.refused(due, "a ninth", Made.BAD, x -> x.show(0, 8), Made::fullOfPeople);
    }

    private static void saysMemory(Due due) {
        for (int kind = 0; kind < 6; kind++) {
            for (int memory = 0; memory <= 9; memory += 9) {
                LostBeforeSung x = Made.plain(1, 0);
                x.person(kind, 2, memory, 8);
                x.show(0, 1);
                due.be("KIND " + kind + " of MEMORY " + memory, x.says(0, 0), memory);
                x.give(1, 0, 4);
                due.be("as it is now", x.says(0, 0), 4);
                due.be("refusals", Made.refusals(x), 0);
            }
        }
    }

    private static void saysHold(Due due) {
        // MEMORY 9, GRIEF 2: 7 of an islander; a is 4, WORK 3.
        int[] own = {7, 3, 4, 2, 9, 14};
        int[] above = {0, 0, 0, 1, 2, 0};
        for (int kind = 1; kind < 6; kind++) {
            LostBeforeSung x = Made.plain(7, 1);
            x.mark(0, 0, 9);
            x.person(kind, 4, 9, 2);
            x.show(7, 7);
            due.be("KIND " + kind, x.says(7, kind), own[kind]);
            if (above[kind] > 0) {
                due.be("KIND " + kind + " as " + above[kind], x.says(7, above[kind]), own[kind]);
            }
            x.give(7, 1, 9);
            x.give(7, 0, 0);
            due.be("0 at least, KIND " + kind, x.says(7, kind), kind == 4 ? 5 : 0);
        }
        saysOfEach(due);
    }

    /** Whichever SHELF he is on, and whoever: children of MEMORY 0, 1, .. have HOLD 0, 2, .. */
    private static void saysOfEach(Due due) {
        LostBeforeSung x = new LostBeforeSung();
        for (int p = 0; p < 8; p++) {
            x.person(5, 9, p, 0);
        }
        for (int s = 0; s < 8; s++) {
            for (int p = 0; p < 8; p++) {
                x.show(s, p);
                due.be(p + " on " + s + ", his MEMORY", x.says(s, 0), p);
                due.be(p + " on " + s + ", his HOLD", x.says(s, 5), 2 * p);
            }
        }
    }

    private static void saysBad(Due due) {
        Made.taken(due, "says(1, 0)", 9, x -> x.says(1, 0));
        for (int v : Made.out(0, 7)) {
            Made.refused(due, "says(" + v + ", 0)", Made.BAD, x -> x.says(v, 0));
        }
        for (int v : Made.out(0, 5)) {
            Made.refused(due, "says(1, " + v + ")", Made.BAD, x -> x.says(1, v));
            Made.refused(due, "ahead of OTHER", Made.BAD, x -> x.says(0, v));
            Made.refused(due, "ahead of NOTHING", Made.BAD, x -> x.says(2, v));
        }
    }

    private static void saysOther(Due due) {
        Made.refused(due, "a ROW", Made.OTHER, x -> x.says(0, 0));
        Made.refused(due, "a sailor as a worker", Made.OTHER, x -> x.says(1, 2));
        boolean[][] is = {
            {true, false, false, false, false, false}, {true, true, false, false, false, false},
            {true, false, true, false, false, false}, {true, true, false, true, false, false},
            {true, false, true, false, true, false}, {true, false, false, false, false, true}};
        for (int kind = 0; kind < 6; kind++) {
            for (int as = 0; as < 6; as++) {
                LostBeforeSung x = new LostBeforeSung();
                x.person(kind, 0, 0, 0);
                x.show(0, 0);
                due.yes("KIND " + kind + " as " + as, (x.says(0, as) == Made.OTHER) != is[kind][as]);
                due.be("counted", x.status(13), is[kind][as] ? 0 : 1);
            }
        }
    }

    private static void saysNothing(Due due) {
        Made.refused(due, "says(2, 0)", Made.NOTHING, x -> x.says(2, 0));
        Made.refused(due, "says(2, 5)", Made.NOTHING, x -> x.says(2, 5));
        LostBeforeSung x = Made.usual();
        x.show(1, -1);
        due.be("a person no more", x.says(1, 0), Made.NOTHING);
        x.show(0, -1);
        due.be("a ROW no more", x.says(0, 0), Made.NOTHING);
    }
}
