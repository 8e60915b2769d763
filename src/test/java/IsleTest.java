/** Promises 9 to 16, 20 to 23, 28, 41 to 46, 48: the isle made by hand, and what is so now. */
public final class IsleTest {
    private static final Due DUE = new Due();
    private static final int MOST = Integer.MAX_VALUE;
    private static final int LEAST = Integer.MIN_VALUE;

    public static void main(String[] args) {
        peopleMade();
        songsMade();
        given();
        marked();
        noted();
        known();
        seated();
        told();
        asked();
        holds();
        counts();
        tables();
        weakest();
        finders();
        refusalsChangeNothing();
        DUE.end();
    }

    private static void peopleMade() {
        LostBeforeSung x = new LostBeforeSung();
        int[][] bad = {{6, 0, 0, 0}, {-1, 0, 0, 0}, {0, 10, 0, 0}, {0, -1, 0, 0}, {0, 0, 10, 0}, {0, 0, -1, 0},
            {0, 0, 0, 10}, {0, 0, 0, -1}, {LEAST, MOST, 0, 0}};
        for (int[] b : bad) {
            DUE.be("person bad", x.person(b[0], b[1], b[2], b[3]), -2);
        }
        for (int i = 0; i < 8; i++) {
            DUE.be("person " + i, x.person(i % 6, 9 - i, i, 9), i);
        }
        DUE.be("the ninth", x.person(0, 0, 0, 0), -6);
        DUE.be("the ninth, BAD ahead of FULL", x.person(6, 0, 0, 0), -2);
        DUE.be("status(0)", x.status(0), 8);
        DUE.be("status(16)", x.status(16), 1);
        DUE.be("status(12)", x.status(12), bad.length + 1);
        int[] seventh = {1, 2, 7, 9, 0, 0, 0};
        for (int what = 0; what < 7; what++) {
            DUE.be("personOf(7, " + what + ")", x.personOf(7, what), seventh[what]);
        }
    }

    private static void songsMade() {
        LostBeforeSung x = new LostBeforeSung();
        int[][] bad = {{10, 0}, {-1, 0}, {0, 5}, {0, -1}, {MOST, LEAST}};
        for (int[] b : bad) {
            DUE.be("song bad", x.song(b[0], b[1]), -2);
        }
        for (int i = 0; i < 6; i++) {
            DUE.be("song " + i, x.song(9 - i, i % 5), i);
        }
        DUE.be("the seventh", x.song(0, 0), -6);
        DUE.be("the seventh, BAD ahead of FULL", x.song(0, 5), -2);
        DUE.be("status(1)", x.status(1), 6);
        int[] fourth = {6, 3, 0, 0, 0};
        for (int what = 0; what < 5; what++) {
            DUE.be("songOf(3, " + what + ")", x.songOf(3, what), fourth[what]);
        }
    }

    private static void given() {
        LostBeforeSung x = new LostBeforeSung();
        x.person(0, 1, 2, 3);
        x.person(0, 1, 2, 3);
        DUE.be("MEMORY", x.give(1, 0, 9), 2);
        DUE.be("MEMORY", x.give(1, 0, 0), 9);
        DUE.be("GRIEF", x.give(1, 1, 9), 3);
        DUE.be("HUMS", x.give(1, 2, 1), 0);
        DUE.be("HUMS", x.give(1, 2, 1), 1);
        DUE.be("what MEMORY is", x.personOf(1, 2), 0);
        DUE.be("what GRIEF is", x.personOf(1, 3), 9);
        DUE.be("whether he HUMS", x.personOf(1, 4), 1);
        DUE.be("the other's MEMORY", x.personOf(0, 2), 2);
        DUE.be("whether the other HUMS", x.personOf(0, 4), 0);
        DUE.be("HUMS no more", x.give(1, 2, 0), 1);
        DUE.be("whether he HUMS", x.personOf(1, 4), 0);
        int[][] bad = {{2, 0, 0}, {-1, 0, 0}, {0, 3, 0}, {0, -1, 0}, {0, 0, 10}, {0, 0, -1}, {0, 1, 10}, {0, 2, 2},
            {0, 2, -1}};
        for (int[] b : bad) {
            DUE.be("give bad", x.give(b[0], b[1], b[2]), -2);
        }
    }

    private static void marked() {
        LostBeforeSung x = new LostBeforeSung();
        x.song(1, 2);
        x.song(1, 2);
        DUE.be("HARD", x.mark(1, 0, 9), 1);
        DUE.be("SOUND", x.mark(1, 1, 4), 2);
        DUE.be("STATE", x.mark(1, 2, 2), 0);
        DUE.be("STATE", x.mark(1, 2, 1), 2);
        int[] now = {9, 4, 1};
        for (int what = 0; what < 3; what++) {
            DUE.be("songOf(1, " + what + ")", x.songOf(1, what), now[what]);
            DUE.be("songOf(0, " + what + ")", x.songOf(0, what), new int[] {1, 2, 0}[what]);
        }
        int[][] bad = {{2, 0, 0}, {-1, 0, 0}, {0, 3, 0}, {0, -1, 0}, {0, 0, 10}, {0, 1, 5}, {0, 2, 3}, {0, 2, -1}};
        for (int[] b : bad) {
            DUE.be("mark bad", x.mark(b[0], b[1], b[2]), -2);
        }
    }

    private static void noted() {
        LostBeforeSung x = new LostBeforeSung();
        x.song(0, 0);
        x.song(0, 0);
        for (int i = 0; i < 8; i++) {
            DUE.be("note", x.note(1, i, (i + 1) % 5), 0);
        }
        DUE.be("TUNE", x.songOf(1, 4), 12340123);
        DUE.be("the other's TUNE", x.songOf(0, 4), 0);
        DUE.be("what it was", x.note(1, 7, 0), 3);
        DUE.be("TUNE", x.songOf(1, 4), 12340120);
        int[][] bad = {{2, 0, 0}, {-1, 0, 0}, {0, 8, 0}, {0, -1, 0}, {0, 0, 5}, {0, 0, -1}};
        for (int[] b : bad) {
            DUE.be("note bad", x.note(b[0], b[1], b[2]), -2);
        }
    }

    private static void known() {
        LostBeforeSung x = new LostBeforeSung();
        x.person(0, 0, 0, 0);
        x.person(0, 0, 0, 0);
        x.song(0, 0);
        x.song(0, 0);
        DUE.be("years(1, 0)", x.years(1, 0), 100);
        DUE.be("knows(1, 0, 99)", x.knows(1, 0, 99), -1);
        DUE.be("years(1, 0)", x.years(1, 0), 99);
        DUE.be("knows(1, 0, 0)", x.knows(1, 0, 0), 99);
        DUE.be("years(1, 0)", x.years(1, 0), 0);
        DUE.be("years(0, 0)", x.years(0, 0), 100);
        DUE.be("years(1, 1)", x.years(1, 1), 100);
        DUE.be("who HAS it", x.songOf(0, 3), 2);
        DUE.be("what he HAS", x.personOf(1, 6), 1);
        DUE.be("knows(1, 0, NONE)", x.knows(1, 0, -1), 0);
        DUE.be("knows(1, 0, NONE)", x.knows(1, 0, -1), -1);
        DUE.be("years(1, 0)", x.years(1, 0), 100);
        int[][] bad = {{2, 0, 0}, {-1, 0, 0}, {0, 2, 0}, {0, -1, 0}, {0, 0, 100}, {0, 0, -2}};
        for (int[] b : bad) {
            DUE.be("knows bad", x.knows(b[0], b[1], b[2]), -2);
        }
        DUE.be("years bad", x.years(2, 0), -2);
        DUE.be("years bad", x.years(0, 2), -2);
        DUE.be("years bad", x.years(-1, -1), -2);
        DUE.be("status(12)", x.status(12), 9);
    }

    private static void seated() {
        LostBeforeSung x = new LostBeforeSung();
        for (int i = 0; i < 3; i++) {
            x.person(0, 0, 0, 0);
        }
        DUE.be("seat(0, 2, 1)", x.seat(0, 2, 1), 0);
        DUE.be("seat(2, 0, 1)", x.seat(2, 0, 1), 1);
        DUE.be("BESIDE whom", x.personOf(0, 5), 4);
        DUE.be("BESIDE whom", x.personOf(2, 5), 1);
        DUE.be("BESIDE whom", x.personOf(1, 5), 0);
        DUE.be("seat(2, 0, 0)", x.seat(2, 0, 0), 1);
        DUE.be("BESIDE whom", x.personOf(0, 5), 0);
        DUE.be("BESIDE whom", x.personOf(2, 5), 0);
        int[][] bad = {{0, 0, 1}, {0, 3, 1}, {3, 0, 1}, {-1, 0, 1}, {0, -1, 1}, {0, 1, 2}, {0, 1, -1}};
        for (int[] b : bad) {
            DUE.be("seat bad", x.seat(b[0], b[1], b[2]), -2);
        }
    }

    private static void told() {
        LostBeforeSung x = new LostBeforeSung();
        DUE.be("WORK", x.tell(0, 9), 3);
        DUE.be("WORK", x.tell(0, 0), 9);
        DUE.be("YEAR", x.tell(1, 999), 0);
        DUE.be("YEAR", x.tell(1, 7), 999);
        DUE.be("status(2)", x.status(2), 0);
        DUE.be("status(3)", x.status(3), 7);
        int[][] bad = {{2, 0}, {-1, 0}, {0, 10}, {0, -1}, {1, 1000}, {1, -1}};
        for (int[] b : bad) {
            DUE.be("tell bad", x.tell(b[0], b[1]), -2);
        }
    }

    private static void asked() {
        LostBeforeSung x = new LostBeforeSung();
        x.person(3, 1, 2, 4);
        x.song(5, 1);
        int[] bad = {-1, 7, MOST, LEAST};
        for (int b : bad) {
            DUE.be("personOf bad what", x.personOf(0, b), -2);
            DUE.be("songOf bad what", x.songOf(0, b == 7 ? 5 : b), -2);
        }
        DUE.be("personOf nobody", x.personOf(1, 0), -2);
        DUE.be("personOf nobody", x.personOf(-1, 0), -2);
        DUE.be("songOf none", x.songOf(1, 0), -2);
        DUE.be("songOf none", x.songOf(-1, 0), -2);
        int[] of = {3, 1, 2, 4};
        for (int what = 0; what < 4; what++) {
            DUE.be("personOf", x.personOf(0, what), of[what]);
        }
        int[] none = {-1, 8, 9, 10, 11, 17, 18, MOST, LEAST};
        for (int what : none) {
            DUE.be("status " + what, x.status(what), -1);
        }
        DUE.be("refusals", x.status(12), 12);
    }

    private static void holds() {
        LostBeforeSung x = new LostBeforeSung();
        x.song(6, 0);
        // MEMORY 4, HARD 6, GRIEF 1: 9; a is 2, WORK 5.
        int[] hold = {9, 7, 4, 4, 9, 18};
        for (int kind = 0; kind < 6; kind++) {
            x.person(kind, 2, 4, 1);
        }
        x.tell(0, 5);
        for (int kind = 0; kind < 6; kind++) {
            DUE.be("hold of " + kind, x.hold(kind, 0), hold[kind]);
        }
        // HARD 0, GRIEF 9: 0 at least, ahead of 5 more and of twice.
        x.mark(0, 0, 0);
        for (int kind = 0; kind < 6; kind++) {
            x.give(kind, 1, 9);
            DUE.be("hold in grief of " + kind, x.hold(kind, 0), kind == 4 ? 5 : 0);
        }
        // 1 of an islander: less a and less WORK 0 at least again.
        for (int kind = 0; kind < 6; kind++) {
            x.give(kind, 1, 3);
            DUE.be("hold of little of " + kind, x.hold(kind, 0), new int[] {1, 0, 0, 0, 5, 2}[kind]);
        }
        x.give(3, 1, 0);
        DUE.be("half of 2", x.hold(3, 0), 1);
        x.give(3, 0, 5);
        DUE.be("half of 3, upward", x.hold(3, 0), 2);
        DUE.be("hold bad", x.hold(6, 0), -2);
        DUE.be("hold bad", x.hold(0, 1), -2);
        DUE.be("hold bad", x.hold(-1, 0), -2);
        DUE.be("hold bad", x.hold(0, -1), -2);
    }

    private static void counts() {
        LostBeforeSung x = new LostBeforeSung();
        DUE.be("no SONGS", x.most(0), -1);
        DUE.be("no SONGS", x.most(1), -1);
        for (int i = 0; i < 4; i++) {
            x.person(i == 3 ? 3 : 1, 0, 0, 0);
            x.song(0, 0);
        }
        DUE.be("all alike", x.most(0), 0);
        DUE.be("nobody HAS what isn't KNOWN", x.people(1), 15);
        int[][] has = {{0, 1}, {0, 2}, {1, 1}, {2, 2}, {2, 1}};
        for (int[] h : has) {
            x.knows(h[0], h[1], 0);
        }
        x.mark(0, 2, 1);
        x.mark(1, 2, 2);
        x.mark(3, 2, 2);
        int[] songs = {6, 4, 1, 10};
        for (int what = 0; what < 4; what++) {
            DUE.be("songs(" + what + ")", x.songs(what), songs[what]);
        }
        DUE.be("status(4)", x.status(4), 2);
        DUE.be("people(0)", x.people(0), 8);
        DUE.be("people(1)", x.people(1), 5);
        DUE.be("both(0, 1)", x.both(0, 1), 2);
        DUE.be("both(0, 2)", x.both(0, 2), 6);
        DUE.be("both(3, 0)", x.both(3, 0), 0);
        DUE.be("most(0)", x.most(0), 1);
        DUE.be("most(1)", x.most(1), 0);
        x.knows(1, 2, 0);
        x.knows(3, 0, 0);
        DUE.be("most(0), of several the first", x.most(0), 1);
        DUE.be("most(1)", x.most(1), 3);
        DUE.be("ofKind(1)", x.ofKind(1), 3);
        DUE.be("ofKind(3)", x.ofKind(3), 1);
        DUE.be("ofKind(0), just that KIND", x.ofKind(0), 0);
        x.knows(0, 3, 0);
        DUE.be("people(1), not the first", x.people(1), 0);
        everybodyHasIt();
        int[] bad = {x.songs(4), x.songs(-1), x.people(2), x.people(-1), x.both(0, 0), x.both(0, 4), x.both(4, 0),
            x.both(-1, 0), x.both(0, -1), x.most(2), x.most(-1), x.ofKind(6), x.ofKind(-1)};
        for (int b : bad) {
            DUE.be("bad", b, -2);
        }
        DUE.be("status(12)", x.status(12), bad.length);
    }

    private static void everybodyHasIt() {
        LostBeforeSung x = new LostBeforeSung();
        x.song(0, 0);
        x.song(0, 0);
        for (int i = 0; i < 8; i++) {
            x.person(0, 0, 0, 0);
            x.knows(i, 0, 0);
            x.knows(i, 1, 0);
        }
        DUE.be("most", x.most(0), 0);
        DUE.be("fewest", x.most(1), 0);
        DUE.be("people with none", x.people(0), 0);
        x.knows(0, 0, -1);
        DUE.be("most", x.most(0), 1);
        DUE.be("people with all", x.people(1), 254);
        x.knows(0, 1, -1);
        DUE.be("people with none", x.people(0), 1);
    }

    private static void tables() {
        LostBeforeSung x = new LostBeforeSung();
        for (int i = 0; i < 8; i++) {
            x.person(0, 0, 0, 0);
        }
        // A row against the order of numbers: 7 beside 6, 6 beside 5, .. 2 beside 1; 0 is alone.
        for (int i = 7; i > 1; i--) {
            x.seat(i, i - 1, 1);
        }
        DUE.be("table(0)", x.table(0), 1);
        DUE.be("table(1)", x.table(1), 254);
        DUE.be("table(7)", x.table(7), 254);
        x.seat(4, 3, 0);
        DUE.be("table(1)", x.table(1), 14);
        DUE.be("table(5)", x.table(5), 240);
        x.seat(0, 1, 1);
        x.seat(0, 7, 1);
        DUE.be("over the first", x.table(3), 255);
        x.seat(1, 2, 0);
        DUE.be("over the first", x.table(1), 243);
        DUE.be("table bad", x.table(8), -2);
        DUE.be("table bad", x.table(-1), -2);
    }

    private static void weakest() {
        LostBeforeSung x = new LostBeforeSung();
        x.song(2, 0);
        DUE.be("nobody", x.weakest(0), -1);
        for (int i = 0; i < 4; i++) {
            x.person(0, 0, 3 + i, 0);
        }
        DUE.be("nobody HAS it", x.weakest(0), -1);
        x.knows(1, 0, 0);
        x.knows(2, 0, 1);
        x.knows(3, 0, 1);
        DUE.be("of several the first", x.weakest(0), 1);
        x.knows(3, 0, 20);
        DUE.be("below 0", x.weakest(0), 3);
        x.give(3, 2, 1);
        DUE.be("also one who HUMS", x.weakest(0), 3);
        LostBeforeSung y = new LostBeforeSung();
        y.song(9, 0);
        y.song(0, 0);
        y.person(0, 0, 3, 0);
        y.person(0, 0, 5, 0);
        y.knows(0, 1, 0);
        y.knows(1, 1, 1);
        DUE.be("by the SONG's HARD", y.weakest(1), 0);
        DUE.be("weakest bad", x.weakest(1), -2);
        DUE.be("weakest bad", x.weakest(-1), -2);
        DUE.be("NONE isn't refused", x.status(12), 2);
    }

    private static void finders() {
        LostBeforeSung x = new LostBeforeSung();
        DUE.be("nobody", x.finder(), -1);
        x.person(0, 0, 3, 0);
        DUE.be("one", x.finder(), 0);
        x.person(5, 0, 7, 9);
        x.person(5, 0, 7, 0);
        DUE.be("the first of greatest MEMORY, whatever the GRIEF", x.finder(), 1);
        x.give(1, 0, 0);
        DUE.be("the other one", x.finder(), 2);
    }

    private static void refusalsChangeNothing() {
        LostBeforeSung x = new LostBeforeSung();
        x.person(1, 2, 3, 4);
        x.song(5, 1);
        x.knows(0, 0, 7);
        x.give(0, 0, 10);
        x.mark(0, 2, 3);
        x.note(0, 0, 5);
        x.knows(0, 0, 100);
        x.tell(0, 10);
        x.tell(1, -1);
        int[] person = {1, 2, 3, 4, 0, 0, 1};
        int[] song = {5, 1, 0, 1, 0};
        for (int what = 0; what < 7; what++) {
            DUE.be("personOf as ahead", x.personOf(0, what), person[what]);
        }
        for (int what = 0; what < 5; what++) {
            DUE.be("songOf as ahead", x.songOf(0, what), song[what]);
        }
        DUE.be("years as ahead", x.years(0, 0), 7);
        DUE.be("status(2)", x.status(2), 3);
        DUE.be("status(3)", x.status(3), 0);
        DUE.be("status(12)", x.status(12), 6);
    }
}
