/** What the tests by sentences share: isles to ask, numbers that may not be, and calls that are refused. */
final class Made {
    static final int BAD = -2;
    static final int OTHER = -3;
    static final int NOTHING = -4;
    static final int STUCK = -5;
    static final int FULL = -6;
    static final int MOST = Integer.MAX_VALUE;
    static final int LEAST = Integer.MIN_VALUE;
    static final int FIRST_FAULT = -20;
    private static final int PROBED = 6;

    interface Making {
        LostBeforeSung made();
    }

    interface Call {
        long on(LostBeforeSung x);
    }

    private Made() {
    }

    /** The first that may not be on both sides, and the farthest. */
    static int[] out(int least, int most) {
        return new int[] {least - 1, most + 1, LEAST, MOST};
    }

    static void feed(LostBeforeSung x, String text) {
        for (int i = 0; i < text.length(); i++) {
            x.feed(text.charAt(i));
        }
    }

    static int isle(LostBeforeSung x, String text) {
        feed(x, text);
        return x.isle();
    }

    /** So many islanders of MEMORY 0 and songs of HARD 0 and SOUND 0. */
    static LostBeforeSung plain(int people, int songs) {
        LostBeforeSung x = new LostBeforeSung();
        for (int p = 0; p < people; p++) {
            x.person(0, 0, 0, 0);
        }
        for (int s = 0; s < songs; s++) {
            x.song(0, 0);
        }
        return x;
    }

    static void tune(LostBeforeSung x, int song, String notes) {
        for (int i = 0; i < notes.length(); i++) {
            x.note(song, i, notes.charAt(i) - '0');
        }
    }

    static void row(LostBeforeSung x, int s, int sort, long... elements) {
        x.row(s, sort, elements.length);
        for (int i = 0; i < elements.length; i++) {
            x.set(s, i, elements[i]);
        }
    }

    /**
     * Something of everything: three PEOPLE, two SONGS, a TAPE that is an ISLE, an image of an earlier time, REFUSALS
     * of most sorts. SHELVES: 0 and 4 bytes (4 and 3), 1 the person 2, 3 ints (2), all others NOTHING.
     */
    static LostBeforeSung usual() {
        LostBeforeSung x = new LostBeforeSung();
        x.person(5, 1, 2, 3);
        x.person(0, 4, 5, 1);
        x.song(6, 4);
        x.knows(0, 0, 3);
        x.tell(1, 40);
        x.image();
        x.person(3, 6, 9, 0);
        x.song(1, 2);
        x.note(0, 0, 4);
        x.note(1, 7, 3);
        x.knows(0, 0, 2);
        x.knows(1, 0, 1);
        x.knows(2, 1, 1);
        x.seat(0, 1, 1);
        x.give(2, 2, 1);
        x.tell(0, 6);
        x.tell(1, 41);
        x.seed(99);
        row(x, 0, 0, 1, 2, 3, 4);
        x.show(1, 2);
        row(x, 3, 2, 77, -77);
        row(x, 4, 0, 2, 1, 0);
        feed(x, "work 2;hums 0");
        x.row(8, 0, 0);
        for (int i = 0; i < 2; i++) {
            x.set(1, 0, 0);
            x.set(2, 0, 0);
            x.taught(0, 0);
        }
        return x;
    }

    /** As many PEOPLE and SONGS as can be, none of them as at first, and everybody HAS every SONG. */
    static LostBeforeSung fullOfAll() {
        return varied(8, 6);
    }

    /** So many PEOPLE and SONGS, none of them as at first, and everybody HAS every SONG. */
    static LostBeforeSung varied(int people, int songs) {
        LostBeforeSung x = new LostBeforeSung();
        for (int p = 0; p < people; p++) {
            x.person(1 + p % 5, 9 - p, 2 + p, 8 - p);
            x.give(p, 2, 1);
            for (int other = 0; other < p; other++) {
                x.seat(p, other, 1);
            }
        }
        for (int s = 0; s < songs; s++) {
            x.song(9 - s, 1 + s % 4);
            x.mark(s, 2, 1 + s % 2);
            tune(x, s, s % 2 == 0 ? "12341234" : "44332211");
            for (int p = 0; p < people; p++) {
                x.knows(p, s, 1 + 6 * p + s);
            }
        }
        x.tell(0, 9);
        x.tell(1, 777);
        x.seed(-1);
        return x;
    }

    static LostBeforeSung fullOfPeople() {
        LostBeforeSung x = plain(7, 1);
        x.person(4, 1, 2, 3);
        return x;
    }

    static LostBeforeSung fullOfSongs() {
        LostBeforeSung x = plain(1, 5);
        x.song(3, 2);
        return x;
    }

    static LostBeforeSung fullOfTape() {
        LostBeforeSung x = plain(1, 0);
        StringBuilder text = new StringBuilder();
        while (text.length() < 244) {
            text.append(' ');
        }
        feed(x, text + "work 7");
        return x;
    }

    /** The call is refused of an isle with something of everything: nothing of it changes. */
    static void refused(Due due, String call, int answer, Call asked) {
        refused(due, call, answer, asked, Made::usual);
    }

    /** The call is refused; all that can be seen stays as in another such object, but how many refusals there were. */
    static void refused(Due due, String call, int answer, Call asked, Making making) {
        LostBeforeSung x = making.made();
        LostBeforeSung y = making.made();
        due.be(call, asked.on(x), answer);
        alike(due, call, x, y, answer <= FIRST_FAULT ? BAD : answer);
    }

    /** The call is a question: it answers this, is no refusal, and changes nothing. */
    static void asked(Due due, String call, long answer, Call asked) {
        asked(due, call, answer, asked, Made::usual);
    }

    static void asked(Due due, String call, long answer, Call asked, Making making) {
        LostBeforeSung x = making.made();
        LostBeforeSung y = making.made();
        due.be(call, asked.on(x), answer);
        alike(due, call, x, y, 0);
    }

    /** The call answers this, and no refusal is counted. */
    static void taken(Due due, String call, long answer, Call asked) {
        taken(due, call, answer, asked, Made::usual);
    }

    static void taken(Due due, String call, long answer, Call asked, Making making) {
        LostBeforeSung x = making.made();
        long before = refusals(x);
        due.be(call, asked.on(x), answer);
        due.be(call + " is no refusal", refusals(x), before);
    }

    static long refusals(LostBeforeSung x) {
        long all = 0;
        for (int what = 12; what <= 16; what++) {
            all = all * 1000 + x.status(what);
        }
        return all;
    }

    /** THE TAPE and the image can only be seen by using them, so that comes last. */
    private static void alike(Due due, String call, LostBeforeSung x, LostBeforeSung y, int answer) {
        String behind = "behind " + call + ": ";
        for (int what = 12; what <= 16; what++) {
            due.be(behind + "status(" + what + ")", x.status(what), y.status(what) + (what == 10 - answer ? 1 : 0));
        }
        seenAlike(due, behind, x, y);
        due.be(behind + "isle()", x.isle(), y.isle());
        seenAlike(due, behind + "isle, ", x, y);
        due.be(behind + "back()", x.back(), y.back());
        seenAlike(due, behind + "back, ", x, y);
        for (int s = 0; s < 8; s++) {
            for (int i = 0; i < PROBED && y.holds(s) >= 0 && y.holds(s) < 10; i++) {
                due.be(behind + "set(" + s + ", " + i + ")", x.set(s, i, 1), y.set(s, i, 1));
            }
        }
    }

    static void seenAlike(Due due, String behind, LostBeforeSung x, LostBeforeSung y) {
        for (int what = 0; what <= 7; what++) {
            due.be(behind + "status(" + what + ")", x.status(what), y.status(what));
        }
        eachAlike(due, behind, x, y);
    }

    /** All that y has are in x as they are in y; x may have more of them. */
    static void eachAlike(Due due, String behind, LostBeforeSung x, LostBeforeSung y) {
        int people = y.status(0);
        int songs = y.status(1);
        for (int p = 0; p < people; p++) {
            for (int what = 0; what <= 5; what++) {
                due.be(behind + "personOf(" + p + ", " + what + ")", x.personOf(p, what), y.personOf(p, what));
            }
            for (int s = 0; s < songs; s++) {
                due.be(behind + "years(" + p + ", " + s + ")", x.years(p, s), y.years(p, s));
            }
        }
        for (int s = 0; s < songs; s++) {
            for (int what = 0; what <= 4; what += what == 2 ? 2 : 1) {
                due.be(behind + "songOf(" + s + ", " + what + ")", x.songOf(s, what), y.songOf(s, what));
            }
        }
        for (int s = 0; s < 8; s++) {
            int held = y.holds(s);
            due.be(behind + "holds(" + s + ")", x.holds(s), held);
            for (int i = 0; i < PROBED && held >= 0 && held < 10; i++) {
                due.be(behind + "element(" + s + ", " + i + ")", x.element(s, i), y.element(s, i));
            }
        }
    }
}
