/** Promises 50 to 56: pass, taught, drawn, seed, image, back, status. */
public final class TruthTest {
    private static final Due DUE = new Due();

    public static void main(String[] args) {
        years();
        yearInOrder();
        taught();
        draws();
        seeds();
        images();
        status();
        DUE.end();
    }

    private static void years() {
        LostBeforeSung x = new LostBeforeSung();
        DUE.be("pass()", x.pass(), 1);
        DUE.be("pass()", x.pass(), 2);
        x.tell(1, 998);
        DUE.be("pass()", x.pass(), 999);
        DUE.be("pass()", x.pass(), 999);
        DUE.be("status(3)", x.status(3), 999);
        x.person(0, 0, 9, 0);
        x.song(0, 0);
        x.give(0, 2, 1);
        x.knows(0, 0, 98);
        x.pass();
        DUE.be("a hummer, beyond his HOLD", x.years(0, 0), 99);
        x.pass();
        DUE.be("99 at most", x.years(0, 0), 99);
        x.give(0, 2, 0);
        x.pass();
        DUE.be("he forgets", x.years(0, 0), 100);
        DUE.be("it is LOST", x.songOf(0, 2), 1);
        x.pass();
        DUE.be("999 modulo 5 isn't 0", x.songOf(0, 2), 1);
        x.mark(0, 1, 4);
        x.pass();
        DUE.be("it is 4", x.songOf(0, 2), 2);
        DUE.be("he HAS it", x.years(0, 0), 0);
    }

    private static void yearInOrder() {
        LostBeforeSung x = new LostBeforeSung();
        x.person(0, 0, 2, 0);
        x.person(5, 0, 0, 0);
        x.song(0, 1);
        x.song(1, 1);
        x.knows(0, 0, 2);
        x.knows(0, 1, 2);
        x.seat(0, 1, 1);
        x.pass();
        DUE.be("forgotten ahead of picking up", x.years(1, 0), 100);
        DUE.be("just at his HOLD he HAS it", x.years(0, 1), 3);
        DUE.be("picked up", x.years(1, 1), 0);
        DUE.be("LOST just now, not found", x.songOf(0, 2), 1);
        x.pass();
        DUE.be("above the HOLD", x.years(0, 1), 100);
        DUE.be("a year more", x.years(1, 1), 1);
        DUE.be("new still", x.songOf(1, 2), 0);
        x.pass();
        x.pass();
        x.pass();
        DUE.be("LOST in YEAR 5", x.songOf(1, 2), 1);
        DUE.be("LOST still", x.songOf(0, 2), 1);
        DUE.be("YEAR 6", x.pass(), 6);
        DUE.be("found", x.songOf(0, 2), 2);
        DUE.be("found", x.songOf(1, 2), 2);
        DUE.be("by the one", x.personOf(0, 6), 3);
        DUE.be("not by the child", x.personOf(1, 6), 0);
    }

    private static void taught() {
        LostBeforeSung x = new LostBeforeSung();
        x.person(0, 0, 0, 0);
        x.person(0, 0, 0, 0);
        x.song(0, 0);
        DUE.be("taught(1, 0)", x.taught(1, 0), 1);
        DUE.be("taught(0, 0)", x.taught(0, 0), 2);
        DUE.be("years(0, 0)", x.years(0, 0), 0);
        DUE.be("he HAS it", x.taught(0, 0), -5);
        x.knows(0, 0, -1);
        x.mark(0, 2, 1);
        DUE.be("it is LOST", x.taught(0, 0), -5);
        DUE.be("years(0, 0)", x.years(0, 0), 100);
        x.mark(0, 2, 2);
        DUE.be("it is SUNG", x.taught(0, 0), 2);
        DUE.be("it is SUNG still", x.songOf(0, 2), 2);
        x.song(0, 0);
        x.song(0, 0);
        x.mark(1, 2, 1);
        DUE.be("the person 1, the song 2", x.taught(1, 2), 1);
        DUE.be("the person 0, the song 2", x.taught(0, 2), 2);
        DUE.be("what they HAVE", x.both(0, 1), 5);
        DUE.be("the song 1 is LOST", x.taught(0, 1), -5);
        LostBeforeSung y = new LostBeforeSung();
        y.person(0, 0, 0, 0);
        y.person(0, 0, 0, 0);
        y.song(0, 0);
        y.song(0, 0);
        y.knows(1, 1, 5);
        DUE.be("another HAS it", y.taught(0, 1), 2);
        int[] bad = {x.taught(2, 0), x.taught(-1, 0), x.taught(0, 3), x.taught(0, -1)};
        for (int b : bad) {
            DUE.be("taught bad", b, -2);
        }
        DUE.be("status(15)", x.status(15), 3);
        DUE.be("status(12)", x.status(12), 4);
    }

    private static int next(int seed) {
        return seed * 1103515245 + 12345;
    }

    private static int below(int seed, int n) {
        return (seed >>> 16) % n;
    }

    private static void draws() {
        LostBeforeSung x = new LostBeforeSung();
        DUE.be("nobody", x.drawn(1), -5);
        DUE.be("nobody, BAD n", x.drawn(0), -2);
        for (int i = 0; i < 3; i++) {
            x.person(0, 0, i, 0);
        }
        int[] bad = {0, -1, 61, Integer.MIN_VALUE, Integer.MAX_VALUE};
        for (int n : bad) {
            DUE.be("drawn(" + n + ")", x.drawn(n), -2);
        }
        DUE.be("SEED as ahead", x.status(6), 1);
        int[] starts = {1, -1, 99, -2000000000};
        for (int start : starts) {
            x.seed(start);
            x.give(0, 1, 0);
            x.give(1, 1, 0);
            x.give(2, 1, 0);
            int work = next(start);
            int who = next(work);
            int grief = next(who);
            DUE.be("drawn(1)", x.drawn(1), 0);
            DUE.be("WORK", x.status(2), below(work, 10));
            for (int i = 0; i < 3; i++) {
                DUE.be("GRIEF of " + i, x.personOf(i, 3), i == below(who, 3) ? below(grief, 10) : 0);
            }
            DUE.be("SEED", x.status(6), grief);
        }
        DUE.be("YEAR", x.status(3), starts.length);
        foundByDraws();
    }

    private static void foundByDraws() {
        LostBeforeSung x = new LostBeforeSung();
        x.person(0, 0, 9, 0);
        for (int s = 0; s < 5; s++) {
            x.song(0, s);
            x.mark(s, 2, s == 4 ? 2 : 1);
        }
        DUE.be("SOUNDS 1 and 2", x.drawn(2), 2);
        DUE.be("SOUND 3 and nothing of 4", x.drawn(2), 1);
        DUE.be("SOUND 0", x.drawn(60), 1);
        DUE.be("YEAR", x.status(3), 64);
        DUE.be("none is LOST any more", x.songs(2), 0);
        DUE.be("none is LOST any more", x.drawn(60), 0);
    }

    private static void seeds() {
        LostBeforeSung x = new LostBeforeSung();
        DUE.be("seed(5)", x.seed(5), 1);
        DUE.be("seed(MIN)", x.seed(Integer.MIN_VALUE), 5);
        DUE.be("status(6)", x.status(6), Integer.MIN_VALUE);
        DUE.be("seed(-2)", x.seed(-2), Integer.MIN_VALUE);
        DUE.be("seed(0)", x.seed(0), -2);
        DUE.be("nothing is refused", x.status(12), 0);
    }

    private static void images() {
        LostBeforeSung x = new LostBeforeSung();
        DUE.be("nothing was kept", x.back(), -5);
        x.person(5, 1, 2, 3);
        x.person(0, 1, 2, 3);
        x.song(4, 1);
        x.note(0, 2, 3);
        x.knows(0, 0, 6);
        x.seat(0, 1, 1);
        x.give(1, 2, 1);
        x.tell(0, 8);
        x.tell(1, 77);
        x.seed(1234);
        x.feed('a');
        DUE.be("image()", x.image(), 1);
        for (int round = 0; round < 2; round++) {
            x.person(1, 0, 0, 0);
            x.song(0, 0);
            x.note(0, 2, 0);
            x.knows(0, 0, -1);
            x.knows(1, 0, 5);
            x.seat(0, 1, 0);
            x.seat(0, 2, 1);
            x.give(0, 0, 9);
            x.give(0, 1, 9);
            x.give(1, 2, 0);
            x.mark(0, 0, 0);
            x.mark(0, 1, 0);
            x.mark(0, 2, 2);
            x.tell(0, 0);
            x.tell(1, 0);
            x.seed(1);
            x.feed('b');
            x.show(0, 2);
            x.show(1, 1);
            x.row(2, 0, 1);
            x.set(2, 0, 7);
            x.person(9, 0, 0, 0);
            DUE.be("back()", x.back(), 1);
            asKept(x, round);
        }
        x.show(1, 1);
        x.image();
        x.song(0, 0);
        x.back();
        DUE.be("the newer image", x.status(1), 1);
    }

    private static void asKept(LostBeforeSung x, int round) {
        int[] first = {5, 1, 2, 3, 0, 2, 1};
        int[] second = {0, 1, 2, 3, 1, 1, 0};
        int[] song = {4, 1, 0, 1, 300000};
        for (int what = 0; what < 7; what++) {
            DUE.be("personOf(0, " + what + ")", x.personOf(0, what), first[what]);
            DUE.be("personOf(1, " + what + ")", x.personOf(1, what), second[what]);
        }
        for (int what = 0; what < 5; what++) {
            DUE.be("songOf(0, " + what + ")", x.songOf(0, what), song[what]);
        }
        DUE.be("years(0, 0)", x.years(0, 0), 6);
        int[] status = {2, 1, 8, 77, 1, 2 + round, 1234, 2};
        for (int what = 0; what < 8; what++) {
            DUE.be("status(" + what + ")", x.status(what), status[what]);
        }
        DUE.be("a shelf with one who is gone", x.holds(0), -1);
        DUE.be("a shelf with one who is there", x.holds(1), 11);
        DUE.be("what he says now", x.says(1, 0), 2);
        DUE.be("a ROW stays", x.element(2, 0), 7);
        DUE.be("REFUSALS stay", x.status(12), 1 + round);
        DUE.be("REFUSALS stay", x.status(15), 1);
    }

    private static void status() {
        LostBeforeSung x = new LostBeforeSung();
        x.person(0, 0, 0, 0);
        x.show(0, 0);
        x.set(0, 0, 0);
        x.set(0, 0, 0);
        x.set(1, 0, 0);
        x.set(1, 0, 0);
        x.set(1, 0, 0);
        x.set(8, 0, 0);
        for (int i = 0; i < 4; i++) {
            x.back();
        }
        for (int i = 0; i < 11; i++) {
            x.song(0, 0);
        }
        int[] refusals = {1, 2, 3, 4, 5};
        for (int i = 0; i < 5; i++) {
            DUE.be("status(" + (12 + i) + ")", x.status(12 + i), refusals[i]);
        }
        x.knows(0, 3, 0);
        x.knows(0, 5, 0);
        DUE.be("KNOWN", x.status(4), 2);
        DUE.be("songs", x.status(1), 6);
        DUE.be("people", x.status(0), 1);
        DUE.be("shelves", x.status(7), 1);
    }
}
