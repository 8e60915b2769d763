/** Promises 24 to 34, 39, 40, 47, 49: what comes of it. */
public final class OutlookTest {
    private static final Due DUE = new Due();

    public static void main(String[] args) {
        oneIslander();
        neverLost();
        notNewNow();
        childrenPickUp();
        foundAgain();
        lasts();
        keeps();
        works();
        teaches();
        hummers();
        orders();
        fits();
        griefs();
        judges();
        sixty();
        oneOfOthers();
        refused();
        DUE.end();
    }

    /** An islander of HOLD 4 on the song 0 (SOUND 3), who has it for 0 years. */
    private static LostBeforeSung one() {
        LostBeforeSung x = new LostBeforeSung();
        x.person(0, 0, 3, 1);
        x.song(2, 3);
        x.knows(0, 0, 0);
        return x;
    }

    private static void oneIslander() {
        LostBeforeSung x = one();
        for (int n = 0; n <= 12; n++) {
            DUE.be("who HAS it behind " + n, x.behind(0, n, 0), n < 5 || (n >= 8 && n <= 12) ? 1 : 0);
            DUE.be("STATE behind " + n, x.behind(0, n, 1), n < 5 ? 0 : n < 8 ? 1 : 2);
            DUE.be("KNOWN behind " + n, x.behind(0, n, 2), n < 5 || (n >= 8 && n <= 12) ? 1 : 0);
        }
        DUE.be("behind 13", x.behind(0, 13, 0), 0);
        DUE.be("STATE behind 60", x.behind(0, 60, 1), 2);
        DUE.be("lostIn", x.lostIn(0), 5);
        DUE.be("sungIn", x.sungIn(0), 8);
        DUE.be("last", x.last(0), 1);
        DUE.be("forgets", x.forgets(0, 0), 5);
        x.mark(0, 1, 0);
        DUE.be("not called up in the YEAR it is LOST", x.sungIn(0), 10);
        x.tell(1, 4);
        DUE.be("by the YEAR", x.sungIn(0), 6);
        x.tell(1, 996);
        x.mark(0, 1, 4);
        DUE.be("YEAR stays 999", x.sungIn(0), 6);
        x.mark(0, 1, 3);
        DUE.be("998 is ahead of the loss", x.sungIn(0), -1);
        DUE.be("nothing is changed", x.status(3), 996);
        DUE.be("nothing is changed", x.years(0, 0), 0);
        DUE.be("nothing is changed", x.songOf(0, 2), 0);
    }

    private static void neverLost() {
        LostBeforeSung x = one();
        x.give(0, 2, 1);
        DUE.be("a hummer", x.lostIn(0), -1);
        DUE.be("a hummer", x.sungIn(0), -1);
        DUE.be("a hummer", x.last(0), -1);
        DUE.be("a hummer", x.forgets(0, 0), -1);
        DUE.be("a hummer", x.keep(0), -1);
        DUE.be("a hummer", x.next(), -1);
        DUE.be("a hummer", x.workFor(0, 60), -1);
        DUE.be("a hummer", x.teach(0, 0), -1);
        DUE.be("a hummer", x.behind(0, 60, 0), 1);
        DUE.be("NONE isn't refused", x.status(12), 0);
        // 60 is the farthest: two children at one table teach each other anew for ever.
        LostBeforeSung y = new LostBeforeSung();
        y.song(9, 0);
        y.person(5, 0, 9, 0);
        y.person(5, 0, 9, 0);
        y.knows(0, 0, 13);
        DUE.be("one child forgets it", y.lostIn(0), 24);
        y.seat(0, 1, 1);
        DUE.be("two don't", y.lostIn(0), -1);
        DUE.be("the one forgets it in a YEAR, and picks it up in the same", y.forgets(0, 0), -1);
        DUE.be("and has it anew", y.behind(0, 24, 0), 3);
    }

    private static void notNewNow() {
        LostBeforeSung x = one();
        x.mark(0, 2, 2);
        DUE.be("lostIn", x.lostIn(0), 0);
        DUE.be("sungIn", x.sungIn(0), 0);
        DUE.be("last", x.last(0), -1);
        DUE.be("next", x.next(), -1);
        DUE.be("workFor", x.workFor(0, 0), 0);
        DUE.be("a sung song isn't LOST again", x.behind(0, 30, 1), 2);
        x.mark(0, 2, 1);
        DUE.be("lostIn", x.lostIn(0), 0);
        DUE.be("last", x.last(0), -1);
        DUE.be("sungIn, though somebody HAS it", x.sungIn(0), 3);
        DUE.be("he HAS it for 0 years then", x.forgets(0, 0), 8);
    }

    private static void childrenPickUp() {
        LostBeforeSung x = new LostBeforeSung();
        x.song(0, 0);
        x.person(0, 0, 2, 0);
        x.person(5, 0, 1, 0);
        x.person(5, 0, 1, 0);
        x.person(2, 0, 9, 0);
        x.knows(0, 0, 0);
        x.seat(0, 1, 1);
        x.seat(1, 2, 1);
        x.seat(0, 3, 1);
        // Only who sits BESIDE one who HAS it, as it is ahead of all picking up; only children.
        DUE.be("behind 1", x.behind(0, 1, 0), 3);
        DUE.be("behind 2", x.behind(0, 2, 0), 7);
        // The first forgets in YEAR 3; the child 1 in YEAR 4, but picks it up from the child 2.
        DUE.be("behind 3", x.behind(0, 3, 0), 6);
        DUE.be("behind 4", x.behind(0, 4, 0), 6);
        DUE.be("behind 5", x.behind(0, 5, 0), 6);
        DUE.be("by 0 years anew", x.behind(0, 60, 0), 6);
        x.knows(0, 0, 2);
        DUE.be("nobody BESIDE HAS it by then", x.behind(0, 1, 0), 0);
        DUE.be("lostIn", x.lostIn(0), 1);
    }

    private static void foundAgain() {
        LostBeforeSung x = new LostBeforeSung();
        x.song(0, 2);
        x.mark(0, 2, 1);
        DUE.be("nobody is there", x.sungIn(0), -1);
        DUE.be("it stays LOST", x.behind(0, 60, 1), 1);
        x.person(0, 0, 4, 0);
        x.person(5, 0, 6, 0);
        x.person(0, 0, 6, 0);
        DUE.be("sungIn", x.sungIn(0), 2);
        DUE.be("by the first of greatest MEMORY", x.behind(0, 2, 0), 2);
        x.give(2, 0, 7);
        DUE.be("by the one of greatest MEMORY", x.behind(0, 2, 0), 4);
        x.seat(1, 2, 1);
        DUE.be("children picked up ahead of that", x.behind(0, 2, 0), 4);
        DUE.be("and pick up in the next", x.behind(0, 3, 0), 6);
    }

    private static void lasts() {
        LostBeforeSung x = new LostBeforeSung();
        x.song(1, 0);
        DUE.be("nobody ever", x.last(0), 0);
        x.person(0, 0, 2, 0);
        x.person(0, 0, 4, 0);
        x.person(0, 0, 4, 0);
        x.knows(0, 0, 0);
        x.knows(1, 0, 1);
        x.knows(2, 0, 1);
        DUE.be("lostIn", x.lostIn(0), 5);
        DUE.be("both of the last YEAR", x.last(0), 6);
        x.knows(0, 0, -1);
        x.knows(1, 0, -1);
        x.knows(2, 0, -1);
        DUE.be("nobody now", x.last(0), 0);
        DUE.be("nobody now", x.lostIn(0), 1);
    }

    private static void keeps() {
        LostBeforeSung x = new LostBeforeSung();
        x.song(0, 0);
        // The teller 0 HAS it for short; child 2 (HOLD 4) and child 3 (HOLD 8) sit beside him, 1 beside nobody.
        x.person(0, 0, 2, 0);
        x.person(0, 0, 9, 0);
        x.person(5, 0, 2, 0);
        x.person(5, 0, 4, 0);
        x.knows(0, 0, 1);
        x.seat(0, 2, 1);
        x.seat(0, 3, 1);
        // Child 3 forgets in YEAR 10, child 2 (without 3) in YEAR 6, the teller alone in YEAR 2.
        DUE.be("lostIn", x.lostIn(0), 10);
        DUE.be("the teller", x.keep(0), 0);
        x.give(0, 2, 1);
        DUE.be("a hummer keeps it anyway", x.keep(0), -1);
        x.give(0, 2, 0);
        x.knows(0, 0, -1);
        x.knows(2, 0, 0);
        // Now child 2 HAS it; only the teller sits between; no child beside a child: all alike.
        DUE.be("of several the first", x.keep(0), 0);
        DUE.be("lostIn", x.lostIn(0), 5);
        x.seat(2, 3, 1);
        // Of HOLD 4 and 8 both forget it in YEAR 10; alike ones never in the same YEAR.
        DUE.be("two children", x.lostIn(0), 10);
        x.give(3, 0, 2);
        DUE.be("two children keep it for ever", x.lostIn(0), -1);
        DUE.be("by the first of both", x.keep(0), 2);
        DUE.be("nothing is changed", x.personOf(2, 5), 9);
        x.mark(0, 2, 1);
        DUE.be("not new: LOST IN 0 by all", x.keep(0), 0);
        LostBeforeSung y = new LostBeforeSung();
        y.song(0, 0);
        DUE.be("nobody", y.keep(0), -1);
        keepsByAYear();
        keepsFromSeveral();
    }

    private static void keepsByAYear() {
        LostBeforeSung x = new LostBeforeSung();
        x.song(0, 0);
        // Child 1 picks it up from 3 in YEAR 1 and forgets it in YEAR 8; child 2 HAS it now, till YEAR 7.
        x.person(0, 0, 0, 0);
        x.person(5, 0, 3, 0);
        x.person(5, 0, 3, 0);
        x.person(0, 0, 1, 0);
        x.knows(2, 0, 0);
        x.knows(3, 0, 0);
        x.seat(1, 3, 1);
        DUE.be("lostIn", x.lostIn(0), 8);
        DUE.be("a YEAR sooner without 1", x.keep(0), 1);
    }

    private static void keepsFromSeveral() {
        LostBeforeSung x = new LostBeforeSung();
        x.song(0, 0);
        x.person(5, 0, 3, 0);
        x.person(0, 0, 1, 0);
        x.person(5, 0, 3, 0);
        x.knows(1, 0, 0);
        x.seat(0, 1, 1);
        x.seat(2, 1, 1);
        DUE.be("lostIn", x.lostIn(0), 8);
        DUE.be("from the one both sit BESIDE", x.keep(0), 1);
    }

    private static void works() {
        LostBeforeSung x = new LostBeforeSung();
        x.song(5, 0);
        x.person(2, 0, 7, 0);
        x.knows(0, 0, 0);
        // HOLD 12 less WORK: LOST in 13 less WORK years.
        DUE.be("workFor(0, 13)", x.workFor(0, 13), 0);
        DUE.be("workFor(0, 12)", x.workFor(0, 12), 1);
        DUE.be("workFor(0, 4)", x.workFor(0, 4), 9);
        DUE.be("workFor(0, 3)", x.workFor(0, 3), -1);
        DUE.be("workFor(0, 0)", x.workFor(0, 0), -1);
        DUE.be("workFor(0, 60)", x.workFor(0, 60), 0);
        DUE.be("nothing is changed", x.status(2), 3);
    }

    private static void teaches() {
        LostBeforeSung x = new LostBeforeSung();
        x.song(0, 0);
        int[] memory = {9, 3, 1, 3, 1};
        for (int m : memory) {
            x.person(0, 0, m, 0);
        }
        x.knows(1, 0, 3);
        // By himself 1 forgets in YEAR 1. Taught for 0 years: 0 in YEAR 10, 2 and 4 in YEAR 2, 3 in YEAR 4.
        DUE.be("teach 0", x.teach(0, 0), 0);
        DUE.be("teach 1", x.teach(0, 1), 4);
        DUE.be("teach 2", x.teach(0, 2), 20);
        DUE.be("teach 3", x.teach(0, 3), 28);
        DUE.be("teach 4", x.teach(0, 4), 29);
        DUE.be("not so many", x.teach(0, 5), -1);
        DUE.be("not so many", x.teach(0, 8), -1);
        x.give(2, 2, 1);
        DUE.be("not the hummer", x.teach(0, 1), 16);
        DUE.be("only with the hummer: never", x.teach(0, 4), -1);
        x.mark(0, 2, 1);
        DUE.be("LOST IN 0 by all: least as bits", x.teach(0, 2), 5);
        DUE.be("nothing is changed", x.songOf(0, 3), 2);
    }

    private static void hummers() {
        LostBeforeSung x = new LostBeforeSung();
        x.song(0, 0);
        x.person(0, 0, 5, 0);
        DUE.be("nobody HAS it", x.hummer(0), -1);
        x.person(0, 0, 3, 0);
        x.person(0, 0, 3, 0);
        x.knows(1, 0, 0);
        x.knows(2, 0, 0);
        DUE.be("the first of those who HAVE it", x.hummer(0), 1);
        DUE.be("nothing is changed", x.personOf(1, 4), 0);
        x.mark(0, 2, 2);
        DUE.be("not new: the first of those who HAVE it", x.hummer(0), 1);
    }

    private static void orders() {
        LostBeforeSung x = new LostBeforeSung();
        DUE.be("no SONGS", x.next(), -1);
        DUE.be("no 0th", x.order(0), -2);
        x.person(0, 0, 0, 0);
        x.person(0, 0, 0, 0);
        x.give(1, 2, 1);
        int[] hard = {3, 1, 2, 3, 1, 9};
        for (int s = 0; s < 6; s++) {
            x.song(hard[s], 0);
            x.knows(s == 5 ? 1 : 0, s, 0);
        }
        x.mark(2, 2, 1);
        // LOST IN 4, 2, 0 (LOST now), 4, 2, never.
        int[] order = {2, 1, 4, 0, 3, 5};
        for (int i = 0; i < 6; i++) {
            DUE.be("order(" + i + ")", x.order(i), order[i]);
        }
        DUE.be("next", x.next(), 1);
        x.mark(1, 2, 2);
        DUE.be("next", x.next(), 4);
        DUE.be("order(0)", x.order(0), 1);
        DUE.be("order(6)", x.order(6), -2);
        DUE.be("order(-1)", x.order(-1), -2);
    }

    private static void row(LostBeforeSung x, int sort, long... sets) {
        x.row(0, sort, sets.length);
        for (int i = 0; i < sets.length; i++) {
            x.set(0, i, sets[i]);
        }
    }

    private static void fits() {
        LostBeforeSung x = one();
        // HOLD is MEMORY and 1 more; he HAS it behind 1, 2, 3 YEARS if that is 3 at least, not behind the fourth if 3.
        row(x, 0, 1, 1, 1, 0);
        DUE.be("by all four", x.fits(0, 4, 0, 0), 1 << 2);
        DUE.be("by the first three", x.fits(0, 3, 0, 0), 1023 - 3);
        DUE.be("by none", x.fits(0, 0, 0, 0), 1023);
        DUE.be("KINDS by none", x.fits(0, 0, 0, 1), 63);
        // HOLD by KIND (MEMORY 3): islander, drinker 4; worker 1; sailor 2; maker 6; child 8.
        DUE.be("KINDS by three", x.fits(0, 3, 0, 1), 1 + 2 + 16 + 32);
        DUE.be("KINDS by four", x.fits(0, 4, 0, 1), 0);
        row(x, 3, 1, 1, 0, 0);
        DUE.be("KINDS: only the sailor", x.fits(0, 4, 0, 1), 8);
        // His is LOST in YEAR 2 and found by him in YEAR 3.
        row(x, 4, 1, 0, 1, 1);
        DUE.be("KINDS: only the worker", x.fits(0, 4, 0, 1), 4);
        DUE.be("nothing is changed", x.personOf(0, 0), 0);
        DUE.be("nothing is changed", x.personOf(0, 2), 3);
        row(x, 3, (1L << 32) + 1);
        DUE.be("no such set", x.fits(0, 1, 0, 0), 0);
        row(x, 0, -1);
        DUE.be("no such set", x.fits(0, 1, 0, 0), 0);
        // All else as it is, the finder too: a LOST song comes to him only if his MEMORY is greatest.
        x.person(0, 0, 6, 0);
        x.song(0, 1);
        x.mark(1, 2, 1);
        row(x, 1, 3);
        DUE.be("as a finder", x.fits(0, 1, 0, 0), 1023 - 63);
        row(x, 1, 1, 1, 1, 1, 1, 1, 1, 1, 1, 1, 1, 1);
        x.give(0, 2, 1);
        DUE.be("twelve", x.fits(0, 12, 0, 0), 63);
        DUE.be("thirteen", x.fits(0, 13, 0, 0), -2);
    }

    private static void griefs() {
        LostBeforeSung x = one();
        // HOLD is 5 less GRIEF: he forgets in YEAR 6 less GRIEF, 1 at least.
        DUE.be("griefs 6", x.griefs(0, 0, 6), 0);
        DUE.be("griefs 5", x.griefs(0, 0, 5), 1);
        DUE.be("griefs 1", x.griefs(0, 0, 1), 5);
        DUE.be("griefs 0", x.griefs(0, 0, 0), -1);
        DUE.be("griefs 60", x.griefs(0, 0, 60), 0);
        DUE.be("nothing is changed", x.personOf(0, 3), 1);
        x.give(0, 2, 1);
        DUE.be("a hummer", x.griefs(0, 0, 60), -1);
        DUE.be("no refusal so far", x.status(12) + x.status(15), 0);
        x.knows(0, 0, -1);
        DUE.be("he doesn't HAVE it", x.griefs(0, 0, 60), -5);
        DUE.be("BAD ahead of STUCK", x.griefs(0, 0, 61), -2);
        DUE.be("BAD", x.griefs(0, 0, -1), -2);
        DUE.be("BAD", x.griefs(1, 0, 0), -2);
        DUE.be("BAD", x.griefs(0, 1, 0), -2);
        DUE.be("forgets: he doesn't now", x.forgets(0, 0), 0);
    }

    private static void judges() {
        LostBeforeSung x = one();
        x.song(9, 0);
        x.knows(0, 1, 10);
        // The first till YEAR 4, the other (HOLD 11) in YEAR 1; LOST in YEAR 2, found in YEAR 5; the first in YEAR 8.
        row(x, 0, 3, 1, 1, 1, 2, 2, 2, 3);
        DUE.be("all so", x.judge(0, 8), -1);
        DUE.be("none told", x.judge(0, 0), -1);
        for (int i = 0; i < 8; i++) {
            long told = x.element(0, i);
            x.set(0, i, told ^ 1);
            DUE.be("wrong at " + i, x.judge(0, 8), i);
            DUE.be("not told yet", x.judge(0, i), -1);
            x.set(0, i, told);
        }
        x.set(0, 6, 0);
        x.set(0, 3, -1);
        DUE.be("the first", x.judge(0, 8), 3);
        x.row(0, 2, 40);
        DUE.be("forty", x.judge(0, 40), 0);
        DUE.be("nothing is changed", x.status(3), 0);
    }

    /** Two children of HOLD 8 and 6 teach each other till both forget it in the same YEAR. */
    private static LostBeforeSung twoChildren(int years, int others, int sound) {
        LostBeforeSung x = new LostBeforeSung();
        x.person(5, 0, 4, 0);
        x.person(5, 0, 3, 0);
        x.song(0, sound);
        x.seat(0, 1, 1);
        x.knows(0, 0, years);
        x.knows(1, 0, others);
        return x;
    }

    private static void sixty() {
        LostBeforeSung x = twoChildren(3, 3, 0);
        DUE.be("LOST in 60", x.lostIn(0), 60);
        DUE.be("ahead of 60", x.behind(0, 59, 0), 3);
        DUE.be("behind 60", x.behind(0, 60, 1), 1);
        DUE.be("last", x.last(0), 3);
        DUE.be("forgets", x.forgets(1, 0), 60);
        DUE.be("workFor 60", x.workFor(0, 60), 0);
        DUE.be("workFor 59", x.workFor(0, 59), -1);
        DUE.be("teach 0", x.teach(0, 0), 0);
        DUE.be("next", x.next(), 0);
        DUE.be("griefs 59", x.griefs(0, 0, 59), 1);
        DUE.be("griefs 60", x.griefs(0, 0, 60), 0);
        LostBeforeSung y = twoChildren(2, 2, 0);
        DUE.be("LOST in 61 is never", y.lostIn(0), -1);
        DUE.be("last", y.last(0), -1);
        DUE.be("forgets", y.forgets(1, 0), -1);
        DUE.be("workFor 60", y.workFor(0, 60), -1);
        DUE.be("teach 0", y.teach(0, 0), -1);
        DUE.be("next", y.next(), -1);
        DUE.be("LOST in 55, found in 60", twoChildren(8, 1, 0).sungIn(0), 60);
        DUE.be("LOST in 56, found in 61", twoChildren(7, 0, 1).sungIn(0), -1);
        DUE.be("LOST in 56", twoChildren(7, 0, 1).lostIn(0), 56);
    }

    /** Numbers of PEOPLE and SONGS apart, so that none may stand for the other. */
    private static void oneOfOthers() {
        LostBeforeSung x = new LostBeforeSung();
        for (int p = 0; p < 4; p++) {
            x.person(0, 0, 3 + p, 0);
        }
        for (int s = 0; s < 3; s++) {
            x.song(3 * s, 0);
        }
        x.knows(3, 1, 0);
        x.knows(2, 1, 3);
        x.knows(0, 1, 9);
        DUE.be("hold(3, 1)", x.hold(3, 1), 9);
        DUE.be("weakest", x.weakest(1), 0);
        DUE.be("forgets", x.forgets(3, 1), 10);
        DUE.be("forgets", x.forgets(2, 1), 6);
        DUE.be("griefs", x.griefs(3, 1, 7), 3);
        DUE.be("griefs", x.griefs(2, 1, 3), 3);
        DUE.be("griefs of what he doesn't HAVE", x.griefs(3, 0, 7), -5);
        DUE.be("griefs of what he doesn't HAVE", x.griefs(1, 1, 7), -5);
        DUE.be("lostIn", x.lostIn(1), 10);
        DUE.be("last", x.last(1), 8);
        DUE.be("hummer", x.hummer(1), 0);
        DUE.be("next: the first of both that nobody HAS", x.next(), 0);
        // Taught for 0 years: 1 (HOLD 4) keeps it till YEAR 5, 0 (HOLD 3) till YEAR 4 just as 2 who HAS it.
        LostBeforeSung y = new LostBeforeSung();
        y.song(0, 0);
        y.person(0, 0, 4, 0);
        y.person(0, 0, 3, 0);
        y.person(0, 0, 3, 0);
        y.knows(2, 0, 0);
        DUE.be("the second, not the first", y.teach(0, 1), 2);
    }

    private static void refused() {
        LostBeforeSung x = one();
        x.show(1, 0);
        x.row(2, 0, 3);
        int[] bad = {x.behind(1, 0, 0), x.behind(-1, 0, 0), x.behind(0, 61, 0), x.behind(0, -1, 0), x.behind(0, 0, 3),
            x.behind(0, 0, -1), x.lostIn(1), x.lostIn(-1), x.sungIn(1), x.sungIn(-1), x.last(1), x.last(-1), x.keep(1),
            x.keep(-1), x.workFor(1, 0), x.workFor(-1, 0), x.workFor(0, 61), x.workFor(0, -1), x.teach(1, 0),
            x.teach(-1, 0), x.teach(0, 9), x.teach(0, -1), x.hummer(1), x.hummer(-1), x.forgets(1, 0), x.forgets(-1, 0),
            x.forgets(0, 1), x.forgets(0, -1), x.fits(8, 0, 0, 0), x.fits(-1, 0, 0, 0), x.fits(2, 13, 0, 0),
            x.fits(2, -1, 0, 0), x.fits(2, 0, 1, 0), x.fits(2, 0, -1, 0), x.fits(2, 0, 0, 2), x.fits(2, 0, 0, -1),
            x.fits(2, 4, 0, 0), x.fits(1, 0, 0, 2), x.fits(3, 13, 0, 0), x.judge(8, 0), x.judge(-1, 0), x.judge(2, 41),
            x.judge(2, -1), x.judge(2, 4), x.judge(1, 41), x.judge(3, -1)};
        for (int i = 0; i < bad.length; i++) {
            DUE.be("bad " + i, bad[i], -2);
        }
        DUE.be("fits OTHER", x.fits(1, 12, 0, 0), -3);
        DUE.be("fits NOTHING", x.fits(3, 12, 0, 0), -4);
        DUE.be("judge OTHER", x.judge(1, 40), -3);
        DUE.be("judge NOTHING", x.judge(3, 40), -4);
        DUE.be("status(12)", x.status(12), bad.length);
        DUE.be("status(13)", x.status(13), 2);
        DUE.be("status(14)", x.status(14), 2);
    }
}
