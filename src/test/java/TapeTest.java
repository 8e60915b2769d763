/** Promises 17 to 19: feed, wipe, isle. */
public final class TapeTest {
    private static final Due DUE = new Due();

    public static void main(String[] args) {
        bytes();
        everyStatement();
        addsToWhatThereIs();
        faults();
        blanks();
        noRoom();
        allOrNothing();
        longTape();
        DUE.end();
    }

    private static void feed(LostBeforeSung x, String text) {
        for (int i = 0; i < text.length(); i++) {
            x.feed(text.charAt(i));
        }
    }

    private static void isle(LostBeforeSung x, String text, int want) {
        feed(x, text);
        DUE.be("isle of '" + text + "'", x.isle(), want);
        DUE.be("the tape behind it", x.status(5), 0);
    }

    private static void bytes() {
        LostBeforeSung x = new LostBeforeSung();
        DUE.be("feed(0)", x.feed(0), 1);
        DUE.be("feed(255)", x.feed(255), 2);
        DUE.be("feed(256)", x.feed(256), -2);
        DUE.be("feed(-1)", x.feed(-1), -2);
        DUE.be("status(5)", x.status(5), 2);
        DUE.be("wipe()", x.wipe(), 2);
        DUE.be("wipe()", x.wipe(), 0);
        for (int i = 1; i <= 250; i++) {
            DUE.be("feed", x.feed('a'), i);
        }
        DUE.be("one more", x.feed('a'), -6);
        DUE.be("one more, BAD ahead of FULL", x.feed(256), -2);
        DUE.be("status(5)", x.status(5), 250);
        DUE.be("status(16)", x.status(16), 1);
        DUE.be("status(12)", x.status(12), 3);
        DUE.be("one word", x.isle(), -20);
        DUE.be("status(5)", x.status(5), 0);
    }

    private static void everyStatement() {
        LostBeforeSung x = new LostBeforeSung();
        isle(x, "person 5 1 2 3;person 0 9 8 7;song 6 4;song 0 1", 4);
        int[] first = {5, 1, 2, 3, 0, 0, 0};
        for (int what = 0; what < 7; what++) {
            DUE.be("personOf(0, " + what + ")", x.personOf(0, what), first[what]);
        }
        DUE.be("HARD", x.songOf(0, 0), 6);
        DUE.be("SOUND", x.songOf(0, 1), 4);
        isle(x, "has 1 0;has 0 1;beside 0 1;hums 1;work 9;year 999", 6);
        DUE.be("years(1, 0)", x.years(1, 0), 0);
        DUE.be("years(0, 1)", x.years(0, 1), 0);
        DUE.be("BESIDE", x.personOf(0, 5), 2);
        DUE.be("BESIDE", x.personOf(1, 5), 1);
        DUE.be("HUMS", x.personOf(1, 4), 1);
        DUE.be("WORK", x.status(2), 9);
        DUE.be("YEAR", x.status(3), 999);
        isle(x, "not 1 0;away 1 0;still 1;work 0;year 0", 5);
        DUE.be("years(1, 0)", x.years(1, 0), 100);
        DUE.be("years(0, 1)", x.years(0, 1), 0);
        DUE.be("BESIDE", x.personOf(0, 5), 0);
        DUE.be("BESIDE", x.personOf(1, 5), 0);
        DUE.be("HUMS", x.personOf(1, 4), 0);
        DUE.be("WORK", x.status(2), 0);
        DUE.be("YEAR", x.status(3), 0);
        x.knows(0, 1, 50);
        isle(x, "has 0 1", 1);
        DUE.be("from now on", x.years(0, 1), 0);
    }

    private static void addsToWhatThereIs() {
        LostBeforeSung x = new LostBeforeSung();
        x.person(0, 0, 0, 0);
        x.song(0, 0);
        x.mark(0, 2, 1);
        isle(x, "person 1 0 0 0;song 3 3;has 0 1;has 1 0;beside 1 0", 5);
        DUE.be("status(0)", x.status(0), 2);
        DUE.be("status(1)", x.status(1), 2);
        DUE.be("what the first HAS", x.personOf(0, 6), 2);
        DUE.be("what the second HAS", x.personOf(1, 6), 1);
        DUE.be("STATE stays", x.songOf(0, 2), 1);
        DUE.be("status(12)", x.status(12), 0);
    }

    private static void faults() {
        Object[][] due = {
            {"", 0}, {"   ", 3}, {";", 0}, {"person", 6}, {"person 0", 8}, {"person 0 0 0", 12}, {"person 0 0 0 ", 13},
            {"person;", 6}, {"person 0 0 0;", 12}, {"person 0 0 0 0 0", 15}, {"person 0 0 0 0;", 15},
            {"person 0 0 0 0; ", 16}, {"person 0 0 0 0 song 0 0", 15}, {"person 6 0 0 0", 7}, {"person 5 10 0 0", 9},
            {"person 5 9 10 0", 11}, {"person 5 9 9 10", 13}, {"person x 0 0 0", 7}, {"persons 0 0 0 0", 0},
            {"perso 0 0 0 0", 0}, {"personality", 0}, {"Person 0 0 0 0", 0}, {"pErson 0 0 0 0", 0}, {"song 10 0", 5},
            {"song 9 5", 7}, {"song 0001 0", 5}, {"song 001 0004", 9}, {"song 1 -1", 7}, {"has 2 0", 4}, {"has 1 1", 6},
            {"not 2 0", 4}, {"not 0 1", 6}, {"beside 0 0", 9}, {"beside 0 2", 9}, {"beside 2 0", 7}, {"away 1 1", 7},
            {"away 1 2", 7}, {"hums 2", 5}, {"still 2", 6}, {"still", 5}, {"work 10", 5}, {"work 1000", 5},
            {"year 1000", 5}, {"year 0000", 5}, {"year 99999999999", 5}, {"5", 0}, {"work 1;;work 2", 7},
            {"work 1;5", 7}, {"work 1,", 6}, {"work\t1", 4}, {"work 1\n", 6}, {"work 1;wor", 7}, {"nothing 1", 0},
            {"work work 1", 5}, {"work ;", 5}, {"work 1 2", 7}, {"work 1a", 6}, {"\u00e9", 0}, {"work \u00ff", 5},
            {"work 1`", 6}, {"work 1{", 6}, {"work 1:", 6}, {"work 1/", 6}, {"a", 0}, {"wor k 1", 0}, {"workz 1", 0},
            {"xork 1", 0}, {"z", 0}, {"song z", 5}, {"worl 1", 0}, {"work 19", 5}};
        for (Object[] d : due) {
            LostBeforeSung x = Made.plain(2, 1);
            isle(x, (String) d[0], -20 - (Integer) d[1]);
            DUE.be("status(12)", x.status(12), 1);
            DUE.be("status(0)", x.status(0), 2);
            DUE.be("status(1)", x.status(1), 1);
            DUE.be("status(2)", x.status(2), 3);
        }
    }

    private static void blanks() {
        LostBeforeSung x = new LostBeforeSung();
        isle(x, "  person0 1  2   3 ;song 4 0 ; work5;year006", 4);
        DUE.be("a", x.personOf(0, 1), 1);
        DUE.be("GRIEF", x.personOf(0, 3), 3);
        DUE.be("WORK", x.status(2), 5);
        DUE.be("YEAR", x.status(3), 6);
        isle(x, "has00 000;hums0", 2);
        DUE.be("years(0, 0)", x.years(0, 0), 0);
        isle(x, "beside 00", -29);
        isle(x, "work 1239;", -25);
        isle(x, "work 1", 1);
        DUE.be("nothing is left of the tape ahead", x.status(2), 1);
    }

    private static void noRoom() {
        LostBeforeSung x = new LostBeforeSung();
        for (int i = 0; i < 7; i++) {
            x.person(0, 0, 0, 0);
        }
        for (int i = 0; i < 5; i++) {
            x.song(0, 0);
        }
        isle(x, "person 1 1 1 1; person 9", -36);
        isle(x, "song 1 1;song", -29);
        DUE.be("status(0)", x.status(0), 7);
        isle(x, "person 1 1 1 1;song 1 1;has 7 5", 3);
        isle(x, "person", -20);
        isle(x, "work 1;song 1 1", -27);
        DUE.be("that is BAD, not FULL", x.status(12), 4);
        DUE.be("that is BAD, not FULL", x.status(16), 0);
    }

    private static void allOrNothing() {
        LostBeforeSung x = new LostBeforeSung();
        x.person(0, 0, 0, 0);
        x.person(0, 0, 0, 0);
        x.song(0, 0);
        isle(x, "hums 0;has 0 0;beside 0 1;work 7;year 7;song 1 1;person 0 0 0 0;x", -84);
        DUE.be("HUMS", x.personOf(0, 4), 0);
        DUE.be("HAS", x.personOf(0, 6), 0);
        DUE.be("BESIDE", x.personOf(0, 5), 0);
        DUE.be("status(0)", x.status(0), 2);
        DUE.be("status(1)", x.status(1), 1);
        DUE.be("status(2)", x.status(2), 3);
        DUE.be("status(3)", x.status(3), 0);
    }

    private static void longTape() {
        LostBeforeSung x = new LostBeforeSung();
        StringBuilder text = new StringBuilder("work 9");
        int statements = 1;
        while (text.length() + 6 <= 250) {
            text.append(";work").append(statements % 10);
            statements++;
        }
        while (text.length() < 250) {
            text.append(' ');
        }
        isle(x, text.toString(), statements);
        DUE.be("the last WORK", x.status(2), (statements - 1) % 10);
    }
}
