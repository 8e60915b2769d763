/** What the terms tell of THE TAPE, and promises 17 to 19, sentence by sentence: feed, wipe, isle. */
final class TapeSentences {
    private TapeSentences() {
    }

    static void all(Sentences t) {
        t.of(Sentences.TERMS, "An ISLE is read from THE TAPE (bytes, 250 at most).", TapeSentences::tapeOf250);
        t.of(Sentences.TERMS, "TOKENS, each as long as can be:", TapeSentences::longTokens);
        t.of(Sentences.TERMS, "WORDS (a .. z)", TapeSentences::letters);
        t.of(Sentences.TERMS, "NUMBERS (digits)", TapeSentences::digits);
        t.of(Sentences.TERMS, "the SIGN ;", TapeSentences::sign);
        t.of(Sentences.TERMS, "blanks (32) may stand anywhere between.", TapeSentences::blanks);
        t.of(Sentences.TERMS, "STATEMENTS, one or more, with ; between:", TapeSentences::statements);
        t.of(Sentences.TERMS, "person K A M G (MEMORY, GRIEF);", TapeSentences::personTold);
        t.of(Sentences.TERMS, "song H S (HARD, SOUND);", TapeSentences::songTold);
        t.of(Sentences.TERMS, "has X S (the person X HAS the SONG S, for 0 years from now on);", TapeSentences::hasTold);
        t.of(Sentences.TERMS, "not X S;", TapeSentences::notTold);
        t.of(Sentences.TERMS, "beside X Y;", TapeSentences::besideTold);
        t.of(Sentences.TERMS, "away X Y", TapeSentences::awayTold);
        t.of(Sentences.TERMS, "(X and Y aren't the same, in both);", TapeSentences::neverTheSame);
        t.of(Sentences.TERMS, "hums X;", TapeSentences::humsTold);
        t.of(Sentences.TERMS, "still X (he doesn't HUM);", TapeSentences::stillTold);
        t.of(Sentences.TERMS, "work N;", TapeSentences::workTold);
        t.of(Sentences.TERMS, "year N (999 at most).", TapeSentences::yearTold);
        t.of(Sentences.TERMS, "All comes to what there is,", TapeSentences::allComes);
        t.of(Sentences.TERMS, ", or nothing.", TapeSentences::nothingComes);
        t.of(Sentences.TERMS, "The FAULT: the place of the first byte of the first TOKEN that can't stand there",
            TapeSentences::faultPlace);
        t.of(Sentences.TERMS, "also a NUMBER that may not be,", TapeSentences::faultNumber);
        t.of(Sentences.TERMS, "or has more than 3 digits;", TapeSentences::faultDigits);
        t.of(Sentences.TERMS, "what there is no room for: its word;", TapeSentences::faultRoom);
        t.of(Sentences.TERMS, "a byte that begins none", TapeSentences::faultByte);
        t.of(Sentences.TERMS, "THE TAPE's size, if it ends too early.", TapeSentences::faultEnd);
        t.of(17, "THE TAPE gets one byte (0 to 255) behind it: its size.", TapeSentences::fed);
        t.of(17, "BAD;", TapeSentences::feedBad);
        t.of(17, "FULL.", TapeSentences::feedFull);
        t.of(18, "THE TAPE is empty:", TapeSentences::wiped);
        t.of(18, "its size ahead.", TapeSentences::sizeAhead);
        t.of(19, "THE TAPE is an ISLE: how many STATEMENTS;", TapeSentences::howMany);
        t.of(19, "-20 less the FAULT", TapeSentences::lessTheFault);
        t.of(19, "(that is refused, too: BAD).", TapeSentences::faultIsBad);
        t.of(19, "THE TAPE is empty then, either way.", TapeSentences::emptyThen);
    }

    /** Two PEOPLE and one SONG. */
    private static LostBeforeSung small() {
        return Made.plain(2, 1);
    }

    private static void taken(Due due, String text, int statements) {
        due.be("isle of '" + text + "'", Made.isle(small(), text), statements);
    }

    /** The text has its FAULT there: that is BAD, and nothing of it comes. */
    private static void fault(Due due, String text, int place) {
        fault(due, text, place, TapeSentences::small);
    }

    private static void fault(Due due, String text, int place, Made.Making making) {
        Made.refused(due, "isle of '" + text + "'", Made.FIRST_FAULT - place, x -> Made.isle(x, text), () -> {
            LostBeforeSung x = making.made();
            x.wipe();
            return x;
        });
    }

    private static String repeated(String text, int times) {
        StringBuilder all = new StringBuilder();
        for (int i = 0; i < times; i++) {
            all.append(text);
        }
        return all.toString();
    }

    private static void tapeOf250(Due due) {
        String text = repeated(" ", 244) + "work 7";
        LostBeforeSung x = new LostBeforeSung();
        Made.feed(x, text);
        due.be("its size", x.status(5), 250);
        due.be("one more", x.feed('9'), Made.FULL);
        due.be("all of it is read", x.isle(), 1);
        due.be("to the last byte", x.status(2), 7);
        due.be("and there is room again", x.feed('a'), 1);
        fault(due, repeated(" ", 246) + "work", 250);
        fault(due, repeated("a", 250), 0);
        fault(due, repeated("1", 250), 0);
        fault(due, repeated(";", 250), 0);
        due.be("a NUMBER at its end", Made.isle(small(), repeated(" ", 242) + "year 123"), 1);
        fault(due, repeated(" ", 242) + "work 2;", 249);
    }

    private static void longTokens(Due due) {
        fault(due, "work 12", 5);
        fault(due, "worka 1", 0);
        fault(due, "awork 1", 0);
        fault(due, "personsong", 0);
        fault(due, "hums 00;hums 01;hums 02", 21);
        fault(due, "beside01", 8);
        fault(due, "has 00", 6);
        taken(due, "work1", 1);
        taken(due, "work12".substring(0, 5) + ";work2", 2);
        taken(due, "year 123", 1);
        LostBeforeSung x = small();
        Made.isle(x, "year 123");
        due.be("one NUMBER", x.status(3), 123);
    }

    private static void letters(Due due) {
        fault(due, "worka1", 0);
        fault(due, "workz1", 0);
        fault(due, "amy", 0);
        fault(due, "work`1", 4);
        fault(due, "work{1", 4);
        fault(due, "workA1", 4);
        fault(due, "workZ1", 4);
        fault(due, "work" + (char) 225 + "1", 4);
        fault(due, "Work 1", 0);
        fault(due, "WORK 1", 0);
        for (String word : new String[] {"person", "song", "has", "not", "beside", "away", "hums", "still", "work", "year"}) {
            fault(due, word, word.length());
            fault(due, word.substring(0, word.length() - 1) + " 0", 0);
            fault(due, word + "s 0", 0);
            fault(due, word.substring(1) + " 0", 0);
            fault(due, word.substring(0, word.length() - 1) + "b 0", 0);
            for (int i = 0; i < word.length(); i++) {
                fault(due, word.substring(0, i) + "q" + word.substring(i + 1) + " 0 0 0 0", 0);
            }
        }
    }

    private static void digits(Due due) {
        for (int v = 0; v <= 9; v++) {
            LostBeforeSung x = small();
            due.be("work " + v, Made.isle(x, "work " + v), 1);
            due.be("work " + v, x.status(2), v);
            due.be("year 1" + v, Made.isle(x, "year 1" + v), 1);
            due.be("year 1" + v, x.status(3), 10 + v);
        }
        fault(due, "work 5/", 6);
        fault(due, "work 5:", 6);
        fault(due, "work /5", 5);
        fault(due, "work :5", 5);
        fault(due, "work -1", 5);
        fault(due, "work +1", 5);
        fault(due, "work 1.", 6);
        fault(due, "work 0x1", 6);
        fault(due, "work " + (char) 178, 5);
    }

    private static void sign(Due due) {
        taken(due, "work 1;work 2", 2);
        fault(due, "work 1:work 2", 6);
        fault(due, "work 1<work 2", 6);
        fault(due, "work 1,work 2", 6);
        fault(due, "work 1 work 2", 7);
        fault(due, "work;1", 4);
    }

    private static void blanks(Due due) {
        LostBeforeSung x = small();
        due.be("everywhere", Made.isle(x, "  year   012  ;   work 8  ; has 0  0   "), 3);
        due.be("YEAR", x.status(3), 12);
        due.be("WORK", x.status(2), 8);
        due.be("HAS", x.years(0, 0), 0);
        taken(due, "year012;work8;has0 0", 3);
        fault(due, "wo rk 1", 0);
        fault(due, "year 12 3", 8);
        for (int sign : new int[] {0, 9, 10, 13, 31, 33, 160}) {
            fault(due, "work" + (char) sign + "1", 4);
            fault(due, "work 1" + (char) sign, 6);
            fault(due, (char) sign + "work 1", 0);
        }
    }

    private static void statements(Due due) {
        taken(due, "work 1", 1);
        taken(due, "work 1;work 2;work 3", 3);
        fault(due, "", 0);
        fault(due, ";", 0);
        fault(due, ";work 1", 0);
        fault(due, "work 1;", 7);
        fault(due, "work 1;;work 2", 7);
        fault(due, "work 1 2", 7);
        LostBeforeSung x = small();
        due.be("forty-one", Made.isle(x, "work1" + repeated(";work4", 39) + ";work6"), 41);
        due.be("the last counts", x.status(2), 6);
        LostBeforeSung y = new LostBeforeSung();
        due.be("each on what the ones ahead made", Made.isle(y, "person 0 0 0 0;song 0 0;has 0 0;hums 0;still 0;not 0 0;"
            + "person 0 0 0 0;beside 1 0;away 0 1"), 9);
        due.be("as the last of each has it", y.personOf(0, 4) + y.personOf(0, 5) + y.personOf(0, 6), 0);
    }

    private static void personTold(Due due) {
        LostBeforeSung x = new LostBeforeSung();
        due.be("isle", Made.isle(x, "person 5 1 2 3;person 0 9 9 9;person 4 0 0 0"), 3);
        int[][] of = {{5, 1, 2, 3}, {0, 9, 9, 9}, {4, 0, 0, 0}};
        for (int p = 0; p < 3; p++) {
            for (int what = 0; what < 7; what++) {
                due.be("personOf(" + p + ", " + what + ")", x.personOf(p, what), what < 4 ? of[p][what] : 0);
            }
        }
        fault(due, "person 6 0 0 0", 7);
        fault(due, "person 5 10 0 0", 9);
        fault(due, "person 5 9 10 0", 11);
        fault(due, "person 5 9 9 10", 13);
        fault(due, "person 5 9 9", 12);
        fault(due, "person 5 9 9 9 9", 15);
    }

    private static void songTold(Due due) {
        LostBeforeSung x = new LostBeforeSung();
        due.be("isle", Made.isle(x, "song 9 4;song 0 0;song 3 1"), 3);
        int[][] of = {{9, 4}, {0, 0}, {3, 1}};
        for (int s = 0; s < 3; s++) {
            for (int what = 0; what < 5; what++) {
                due.be("songOf(" + s + ", " + what + ")", x.songOf(s, what), what < 2 ? of[s][what] : 0);
            }
        }
        fault(due, "song 10 0", 5);
        fault(due, "song 9 5", 7);
        fault(due, "song 9", 6);
        fault(due, "song 9 4 0", 9);
    }

    private static void hasTold(Due due) {
        LostBeforeSung x = Made.plain(3, 2);
        x.knows(2, 0, 7);
        due.be("isle", Made.isle(x, "has 2 1;has 0 0;has 2 0"), 3);
        due.be("for 0 years", x.years(2, 1), 0);
        due.be("the first", x.years(0, 0), 0);
        due.be("from now on", x.years(2, 0), 0);
        due.be("nothing else", x.personOf(0, 6), 1);
        due.be("nobody else", x.personOf(1, 6), 0);
        fault(due, "has 2 0", 4);
        fault(due, "has 1 1", 6);
        fault(due, "has 0", 5);
        fault(due, "has 0 0 0", 8);
    }

    private static void notTold(Due due) {
        LostBeforeSung x = Made.plain(3, 2);
        for (int p = 0; p < 3; p++) {
            x.knows(p, 0, 5);
            x.knows(p, 1, 5);
        }
        due.be("isle", Made.isle(x, "not 2 1;not 0 0;not 0 0"), 3);
        due.be("the last", x.personOf(2, 6), 1);
        due.be("the first", x.personOf(0, 6), 2);
        due.be("the other", x.personOf(1, 6), 3);
        due.be("as before", x.years(2, 0), 5);
        fault(due, "not 2 0", 4);
        fault(due, "not 1 1", 6);
        fault(due, "not 1", 5);
        fault(due, "not 0 0 0", 8);
    }

    private static void besideTold(Due due) {
        LostBeforeSung x = Made.plain(4, 0);
        due.be("isle", Made.isle(x, "beside 0 3;beside 3 1;beside 3 0"), 3);
        int[] beside = {8, 8, 0, 3};
        for (int p = 0; p < 4; p++) {
            due.be("BESIDE " + p, x.personOf(p, 5), beside[p]);
        }
        fault(due, "beside 2 0", 7);
        fault(due, "beside 0 2", 9);
        fault(due, "beside 0", 8);
        fault(due, "beside 0 1 0", 11);
    }

    private static void awayTold(Due due) {
        LostBeforeSung x = Made.plain(4, 0);
        for (int p = 0; p < 3; p++) {
            x.seat(p, 3, 1);
        }
        due.be("isle", Made.isle(x, "away 0 3;away 3 1;away 1 0"), 3);
        int[] beside = {0, 0, 8, 4};
        for (int p = 0; p < 4; p++) {
            due.be("BESIDE " + p, x.personOf(p, 5), beside[p]);
        }
        fault(due, "away 2 0", 5);
        fault(due, "away 0 2", 7);
        fault(due, "away 0", 6);
        fault(due, "away 0 1 0", 9);
    }

    private static void neverTheSame(Due due) {
        fault(due, "beside 0 0", 9);
        fault(due, "beside 1 1", 9);
        fault(due, "beside 1 01", 9);
        fault(due, "away 0 0", 7);
        fault(due, "away 1 001", 7);
        LostBeforeSung x = small();
        due.be("the same is no matter elsewhere", Made.isle(x, "has 0 0;not 0 0;person 1 1 1 1;song 1 1"), 4);
    }

    private static void humsTold(Due due) {
        LostBeforeSung x = Made.plain(8, 0);
        due.be("isle", Made.isle(x, "hums 7;hums 0;hums 7"), 3);
        for (int p = 0; p < 8; p++) {
            due.be("HUMS " + p, x.personOf(p, 4), p == 0 || p == 7 ? 1 : 0);
        }
        fault(due, "hums 2", 5);
        fault(due, "hums 1 1", 7);
        fault(due, "hums 8", 5, Made::fullOfPeople);
    }

    private static void stillTold(Due due) {
        LostBeforeSung x = Made.plain(8, 0);
        for (int p = 0; p < 8; p++) {
            x.give(p, 2, 1);
        }
        due.be("isle", Made.isle(x, "still 7;still 0;still 7"), 3);
        for (int p = 0; p < 8; p++) {
            due.be("HUMS " + p, x.personOf(p, 4), p == 0 || p == 7 ? 0 : 1);
        }
        fault(due, "still 2", 6);
        fault(due, "still 1 1", 8);
    }

    private static void workTold(Due due) {
        LostBeforeSung x = small();
        due.be("isle", Made.isle(x, "work 0"), 1);
        due.be("WORK", x.status(2), 0);
        due.be("isle", Made.isle(x, "work 009"), 1);
        due.be("WORK", x.status(2), 9);
        due.be("YEAR as it was", x.status(3), 0);
        fault(due, "work 10", 5);
        fault(due, "work", 4);
        fault(due, "work 1 1", 7);
    }

    private static void yearTold(Due due) {
        LostBeforeSung x = small();
        due.be("isle", Made.isle(x, "year 999"), 1);
        due.be("YEAR", x.status(3), 999);
        due.be("isle", Made.isle(x, "year 0"), 1);
        due.be("YEAR", x.status(3), 0);
        due.be("WORK as it was", x.status(2), 3);
        fault(due, "year 1000", 5);
        fault(due, "year 9999", 5);
        fault(due, "year", 4);
        fault(due, "year 999 9", 9);
    }

    /** The STATEMENT comes to just what the call by hand does, whatever there is. */
    private static void asByHand(Due due, String statement, Made.Call hand) {
        Made.Making[] makings = {Made::usual, TapeSentences::crossed, TapeSentences::uncrossed};
        for (Made.Making making : makings) {
            LostBeforeSung x = making.made();
            LostBeforeSung y = making.made();
            x.wipe();
            y.wipe();
            due.be(statement, Made.isle(x, statement), 1);
            hand.on(y);
            Made.seenAlike(due, statement + ": ", x, y);
        }
    }

    /** Three of each; all sit BESIDE each other, HUM, and HAVE all. */
    private static LostBeforeSung crossed() {
        LostBeforeSung x = Made.plain(3, 3);
        for (int p = 0; p < 3; p++) {
            x.give(p, 2, 1);
            x.seat(p, (p + 1) % 3, 1);
            for (int s = 0; s < 3; s++) {
                x.knows(p, s, 7);
            }
        }
        x.tell(1, 5);
        return x;
    }

    /** Three of each, and nothing between them. */
    private static LostBeforeSung uncrossed() {
        return Made.plain(3, 3);
    }

    private static void statementsAsByHand(Due due) {
        asByHand(due, "person 4 3 2 1", x -> x.person(4, 3, 2, 1));
        asByHand(due, "song 7 3", x -> x.song(7, 3));
        asByHand(due, "has 0 1", x -> x.knows(0, 1, 0));
        asByHand(due, "has 2 0", x -> x.knows(2, 0, 0));
        asByHand(due, "not 0 1", x -> x.knows(0, 1, -1));
        asByHand(due, "not 2 0", x -> x.knows(2, 0, -1));
        asByHand(due, "beside 0 1", x -> x.seat(0, 1, 1));
        asByHand(due, "beside 2 0", x -> x.seat(2, 0, 1));
        asByHand(due, "away 0 1", x -> x.seat(0, 1, 0));
        asByHand(due, "away 2 1", x -> x.seat(2, 1, 0));
        asByHand(due, "hums 2", x -> x.give(2, 2, 1));
        asByHand(due, "hums 0", x -> x.give(0, 2, 1));
        asByHand(due, "still 2", x -> x.give(2, 2, 0));
        asByHand(due, "still 0", x -> x.give(0, 2, 0));
        asByHand(due, "work 8", x -> x.tell(0, 8));
        asByHand(due, "year 8", x -> x.tell(1, 8));
    }

    private static void allComes(Due due) {
        statementsAsByHand(due);
        LostBeforeSung full = Made.fullOfAll();
        LostBeforeSung other = Made.fullOfAll();
        due.be("isle", Made.isle(full, "work 1"), 1);
        other.tell(0, 1);
        Made.seenAlike(due, "of all there can be: ", full, other);
        LostBeforeSung x = Made.usual();
        x.wipe();
        due.be("isle", Made.isle(x, "person 1 2 3 4;song 5 1;has 3 2;has 0 2;beside 3 0;hums 3;still 2;not 1 0;away 0 1"), 9);
        int[][] of = {{5, 1, 2, 3, 0, 8, 5}, {0, 4, 5, 1, 0, 0, 0}, {3, 6, 9, 0, 0, 0, 2}, {1, 2, 3, 4, 1, 1, 4}};
        for (int p = 0; p < 4; p++) {
            for (int what = 0; what < 7; what++) {
                due.be("personOf(" + p + ", " + what + ")", x.personOf(p, what), of[p][what]);
            }
        }
        LostBeforeSung told = new LostBeforeSung();
        LostBeforeSung made = new LostBeforeSung();
        StringBuilder text = new StringBuilder("work 9");
        made.tell(0, 9);
        for (int i = 0; i < 8; i++) {
            text.append(";person ").append(5 - i % 6).append(' ').append(9 - i).append(' ').append(i + 2).append(" 8");
            made.person(5 - i % 6, 9 - i, i + 2, 8);
        }
        for (int i = 0; i < 6; i++) {
            text.append(";song ").append(9 - i).append(' ').append(4 - i % 4);
            made.song(9 - i, 4 - i % 4);
        }
        due.be("isle of all there can be", Made.isle(told, text.toString()), 15);
        Made.seenAlike(due, "of all there can be: ", told, made);
        due.be("a TUNE stays", x.songOf(0, 4), 40000000);
        due.be("what one HAS stays", x.years(0, 0), 2);
        due.be("WORK stays", x.status(2), 6);
        due.be("YEAR stays", x.status(3), 41);
        due.be("SEED stays", x.status(6), 99);
        due.be("SHELVES stay", x.holds(1), 12);
    }

    private static void nothingComes(Due due) {
        String all = "person 1 2 3 4;song 5 1;has 0 0;not 1 0;beside 0 1;away 0 1;hums 0;still 1;work 9;year 9";
        fault(due, all + ";", all.length() + 1);
        fault(due, all + ";song 9 5", all.length() + 8);
        fault(due, all + " 9", all.length() + 1);
        fault(due, all + ";isle", all.length() + 1);
        fault(due, "person 0 0 0 0;work 5;beside 0 3;x", 33, Made::usual);
        fault(due, "has 0 1;not 0 0;hums 0;still 2;beside 0 2;away 0 1;x", 51, Made::usual);
        fault(due, "work 0;year 0;song 0 0;has 1 2;hums 1;hums 3", 43, Made::usual);
    }

    private static void faultPlace(Due due) {
        fault(due, "persons 0 0 0 0", 0);
        fault(due, "  walk 1", 2);
        fault(due, "work 1;  walk 1", 9);
        fault(due, "work work", 5);
        fault(due, "work 1;5", 7);
        fault(due, "5", 0);
        fault(due, "work  ;", 6);
        fault(due, "work 1  hums 0", 8);
        fault(due, "person 0 a 99 99", 9);
        fault(due, "person 0 ; 99 99", 9);
        fault(due, "song 99 99", 5);
        fault(due, "work 10;walk", 5);
        fault(due, "walk 10", 0);
    }

    private static void faultNumber(Due due) {
        fault(due, "person 6 10 10 10", 7);
        fault(due, "person 0  10 10 10", 10);
        fault(due, "person 0 0 10 10", 11);
        fault(due, "person 0 0 0 10", 13);
        fault(due, "has 2 1", 4);
        fault(due, "has 999 0", 4);
        fault(due, "has 0 0;has 1 1", 14);
        fault(due, "hums 0", 5, LostBeforeSung::new);
        fault(due, "has 0 0", 4, LostBeforeSung::new);
        fault(due, "has 0 0", 6, () -> Made.plain(1, 0));
        fault(due, "not 0 0", 6, () -> Made.plain(1, 0));
        fault(due, "beside 0 1", 9, () -> Made.plain(1, 0));
        fault(due, "person 0 0 0 0;beside 2 3", 24);
        fault(due, "song 0 0;has 0 2", 15);
        taken(due, "person 0 0 0 0;beside 2 1", 2);
        taken(due, "song 0 0;has 0 1", 2);
    }

    private static void faultDigits(Due due) {
        taken(due, "work 001", 1);
        taken(due, "person 005 009 009 009", 1);
        fault(due, "work 0001", 5);
        fault(due, "year 0001", 5);
        fault(due, "year 0999", 5);
        fault(due, "work 0000", 5);
        fault(due, "has 0000 0", 4);
        fault(due, "has 000 0000", 8);
        fault(due, "work 00000000000000000000000000001", 5);
        fault(due, "year 4294967296", 5);
        fault(due, "year 4294967301", 5);
        fault(due, "year 18446744073709551617", 5);
    }

    private static void faultRoom(Due due) {
        fault(due, "person 0 0 0 0", 0, Made::fullOfPeople);
        fault(due, "work 1; person 9", 8, Made::fullOfPeople);
        fault(due, "person 0 0 0 0; person 0 0 0 0", 16, () -> Made.plain(7, 1));
        fault(due, "song 0 0", 0, Made::fullOfSongs);
        fault(due, "work 1;song", 7, Made::fullOfSongs);
        fault(due, "song 0 0;song 0 0", 9, () -> Made.plain(1, 5));
        LostBeforeSung x = Made.plain(7, 5);
        due.be("the last ones", Made.isle(x, "song 0 0;person 0 0 0 0"), 2);
        due.be("that is BAD, not FULL", Made.isle(x, "person 0 0 0 0"), -20);
        due.be("that is BAD, not FULL", Made.isle(x, "song 0 0"), -20);
        due.be("BAD", x.status(12), 2);
        due.be("FULL", x.status(16), 0);
        due.be("all else has room", Made.isle(x, "has 7 5;hums 7;beside 7 0"), 3);
    }

    private static void faultByte(Due due) {
        for (int sign = 1; sign < 256; sign++) {
            boolean begins = sign >= 'a' && sign <= 'z' || sign >= '0' && sign <= '9' || sign == ';' || sign == ' ';
            if (!begins) {
                LostBeforeSung x = new LostBeforeSung();
                due.be("byte " + sign, Made.isle(x, "work 1 " + (char) sign), -27);
                due.be("WORK", x.status(2), 3);
            }
        }
        fault(due, "work 1" + (char) 0, 6);
        fault(due, "work " + (char) 255 + "1", 5);
        fault(due, "-", 0);
    }

    private static void faultEnd(Due due) {
        fault(due, "", 0);
        fault(due, " ", 1);
        fault(due, "work", 4);
        fault(due, "work ", 5);
        fault(due, "work 1;", 7);
        fault(due, "work 1; ", 8);
        String whole = "person 0 1 2 3";
        for (int size = 6; size < whole.length(); size++) {
            fault(due, whole.substring(0, size), size);
        }
        taken(due, whole, 1);
        fault(due, repeated("work 1;", 35) + "    ;", 249);
        fault(due, repeated(" ", 243) + "work 2;", 250);
        fault(due, repeated(" ", 250), 250);
    }

    private static void fed(Due due) {
        Made.taken(due, "feed(0)", 14, x -> x.feed(0));
        Made.taken(due, "feed(255)", 14, x -> x.feed(255));
        LostBeforeSung x = new LostBeforeSung();
        String text = "year 21";
        for (int i = 0; i < text.length(); i++) {
            due.be("its size", x.feed(text.charAt(i)), i + 1);
            due.be("its size", x.status(5), i + 1);
        }
        due.be("one byte behind another", x.isle(), 1);
        due.be("YEAR", x.status(3), 21);
        due.be("the 0 byte is no end", Made.isle(x, "year 1" + (char) 0 + "23"), -26);
    }

    private static void feedBad(Due due) {
        for (int v : Made.out(0, 255)) {
            Made.refused(due, "feed(" + v + ")", Made.BAD, x -> x.feed(v));
            Made.refused(due, "feed(" + v + "), ahead of FULL", Made.BAD, x -> x.feed(v), Made::fullOfTape);
        }
        Made.refused(due, "feed(256 + 32)", Made.BAD, x -> x.feed(256 + ' '));
    }

    private static void feedFull(Due due) {
        LostBeforeSung x = new LostBeforeSung();
        for (int i = 1; i <= 250; i++) {
            due.be("its size", x.feed(i % 256), i);
        }
        due.be("one more", x.feed(0), Made.FULL);
        due.be("one more", x.feed(255), Made.FULL);
        due.be("counted", x.status(16), 2);
        due.be("its size", x.status(5), 250);
        Made.refused(due, "feed('9')", Made.FULL, y -> y.feed('9'), Made::fullOfTape);
    }

    private static void wiped(Due due) {
        LostBeforeSung x = Made.usual();
        x.wipe();
        due.be("its size", x.status(5), 0);
        due.be("nothing is read from it", x.isle(), -20);
        due.be("a byte is the first", x.feed('w'), 1);
        x.wipe();
        due.be("only what comes then", Made.isle(x, "year 7"), 1);
        due.be("YEAR", x.status(3), 7);
        due.be("WORK as it was", x.status(2), 6);
        nothingIsLeft(due, "workers", "work", -24);
        nothingIsLeft(due, "work    ", "work", -24);
        nothingIsLeft(due, "work 123", "work 1", 1);
        nothingIsLeft(due, "work 1;;", "work 1", 1);
        nothingIsLeft(due, "work 1 2", "work 1 ", 1);
        LostBeforeSung y = Made.fullOfTape();
        y.wipe();
        due.be("room again", y.feed('a'), 1);
        due.be("nothing else changes", y.status(0), 1);
    }

    /** What was on THE TAPE ahead of wipe or isle is no more behind what comes then. */
    private static void nothingIsLeft(Due due, String ahead, String then, int answer) {
        LostBeforeSung x = small();
        Made.feed(x, ahead);
        x.wipe();
        due.be("isle of '" + then + "' where '" + ahead + "' was", Made.isle(x, then), answer);
        Made.isle(x, ahead);
        due.be("isle of '" + then + "' behind '" + ahead + "'", Made.isle(x, then), answer);
    }

    private static void sizeAhead(Due due) {
        Made.taken(due, "of something", 13, x -> x.wipe());
        Made.taken(due, "of nothing", 0, x -> x.wipe(), LostBeforeSung::new);
        Made.taken(due, "of all", 250, x -> x.wipe(), Made::fullOfTape);
        LostBeforeSung x = Made.usual();
        x.wipe();
        due.be("twice", x.wipe(), 0);
    }

    private static void howMany(Due due) {
        taken(due, "work 1", 1);
        taken(due, "work 1;year 1", 2);
        taken(due, "work1" + repeated(";work1", 40) + "     ", 41);
        Made.taken(due, "isle()", 2, x -> x.isle());
        LostBeforeSung x = Made.usual();
        x.isle();
        due.be("WORK", x.status(2), 2);
        due.be("HUMS", x.personOf(0, 4), 1);
    }

    private static void lessTheFault(Due due) {
        for (int place = 0; place <= 249; place++) {
            due.be("FAULT " + place, Made.isle(new LostBeforeSung(), repeated(" ", place) + "!"), -20 - place);
        }
        due.be("FAULT 250", Made.isle(new LostBeforeSung(), repeated(" ", 250)), -270);
    }

    private static void faultIsBad(Due due) {
        LostBeforeSung x = new LostBeforeSung();
        for (int i = 1; i <= 3; i++) {
            Made.isle(x, "work" + i + i);
            due.be("BAD", x.status(12), i);
            due.be("no other", x.status(13) + x.status(14) + x.status(15) + x.status(16), 0);
        }
        due.be("an empty TAPE's too", x.isle(), -20);
        due.be("BAD", x.status(12), 4);
        due.be("what is no FAULT isn't", Made.isle(x, "work1"), 1);
        due.be("BAD", x.status(12), 4);
    }

    private static void emptyThen(Due due) {
        LostBeforeSung x = new LostBeforeSung();
        Made.isle(x, "work 1");
        due.be("behind an ISLE", x.status(5), 0);
        due.be("nothing of it is left", x.isle(), -20);
        Made.isle(x, "work 2;walk");
        due.be("behind a FAULT", x.status(5), 0);
        due.be("nothing of it is left", x.wipe(), 0);
        due.be("a byte is the first", x.feed('y'), 1);
        due.be("then as ever", Made.isle(x, "ear 5"), 1);
        due.be("YEAR", x.status(3), 5);
        due.be("WORK", x.status(2), 1);
    }
}
