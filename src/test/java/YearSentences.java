/** The second part of the terms, sentence by sentence: HOLD, and what is done in a YEAR. */
final class YearSentences {
    private YearSentences() {
    }

    static void all(Sentences t) {
        t.of(Sentences.TERMS, "HOLD of one on a SONG: ISLANDER MEMORY and HARD, less GRIEF (0 at least).",
            YearSentences::islander);
        t.of(Sentences.TERMS, "DRINKER what an ISLANDER has, less a (0 at least).", YearSentences::drinker);
        t.of(Sentences.TERMS, "SAILOR half of what a DRINKER has (upward).", YearSentences::sailor);
        t.of(Sentences.TERMS, "WORKER what an ISLANDER has, less WORK (0 at least).", YearSentences::worker);
        t.of(Sentences.TERMS, "MAKER what a WORKER has, and 5 more.", YearSentences::maker);
        t.of(Sentences.TERMS, "CHILD twice what an ISLANDER has.", YearSentences::child);
        t.of(Sentences.TERMS, "A YEAR, in this order: YEAR is 1 more (999 at most).", YearSentences::yearMore);
        t.of(Sentences.TERMS, "Whoever HAS a SONG has it 1 year more (99 at most);", YearSentences::heldMore);
        t.of(Sentences.TERMS, "if that is above his HOLD,", YearSentences::aboveHold);
        t.of(Sentences.TERMS, "and he doesn't HUM, he forgets it.", YearSentences::hummersKeep);
        t.of(Sentences.TERMS, "Then each of KIND CHILD picks up (has for 0 years)", YearSentences::childrenPickUp);
        t.of(Sentences.TERMS, "what he doesn't have", YearSentences::onlyWhatHeLacks);
        t.of(Sentences.TERMS, "of the SONGS that one BESIDE him HAS by then", YearSentences::hasByThen);
        t.of(Sentences.TERMS, "(as it is ahead of all picking up).", YearSentences::aheadOfAllPickingUp);
        t.of(Sentences.TERMS, "Then each SONG that is LOST since an earlier YEAR (not just now)", YearSentences::lostEarlier);
        t.of(Sentences.TERMS, "and whose SOUND is YEAR modulo 5 is found", YearSentences::soundOfYear);
        t.of(Sentences.TERMS, "(if anybody is there):", YearSentences::ifAnybody);
        t.of(Sentences.TERMS, "by the one of greatest MEMORY, of several the first:", YearSentences::foundBy);
        t.of(Sentences.TERMS, "he HAS it for 0 years; it is SUNG.", YearSentences::foundAnew);
        t.of(Sentences.TERMS, "Then each new SONG (STATE 0) nobody HAS is LOST.", YearSentences::lostNow);
    }

    /** What the HOLD of one of a KIND is, of so much a, MEMORY, GRIEF, HARD, WORK. */
    private static void hold(Due due, int hold, int kind, int... of) {
        LostBeforeSung x = Made.plain(1, 1);
        x.person(kind, of[0], of[1], of[2]);
        x.song(of[3], 0);
        x.tell(0, of[4]);
        String what = "KIND " + kind + " of " + java.util.Arrays.toString(of);
        due.be(what, x.hold(1, 1), hold);
        // He keeps it up to his HOLD, and not above.
        x.knows(1, 1, hold > 0 ? hold - 1 : 0);
        x.pass();
        due.be(what + " at his HOLD", x.years(1, 1), hold > 0 ? hold : 100);
        x.knows(1, 1, hold);
        x.pass();
        due.be(what + " above his HOLD", x.years(1, 1), 100);
    }

    private static void islander(Due due) {
        hold(due, 18, 0, 0, 9, 0, 9, 0);
        hold(due, 18, 0, 9, 9, 0, 9, 9);
        hold(due, 9, 0, 0, 9, 9, 9, 3);
        hold(due, 1, 0, 9, 3, 4, 2, 9);
        hold(due, 0, 0, 9, 3, 5, 2, 9);
        hold(due, 0, 0, 0, 3, 6, 2, 0);
        hold(due, 0, 0, 0, 0, 9, 0, 0);
    }

    private static void drinker(Due due) {
        hold(due, 18, 1, 0, 9, 0, 9, 9);
        hold(due, 9, 1, 9, 9, 0, 9, 9);
        hold(due, 1, 1, 4, 5, 1, 1, 9);
        hold(due, 0, 1, 5, 5, 1, 1, 0);
        hold(due, 0, 1, 6, 5, 1, 1, 0);
        hold(due, 0, 1, 9, 0, 9, 0, 0);
    }

    private static void sailor(Due due) {
        hold(due, 9, 3, 0, 9, 0, 9, 9);
        hold(due, 9, 3, 1, 9, 0, 9, 9);
        hold(due, 8, 3, 2, 9, 0, 9, 9);
        hold(due, 2, 3, 2, 6, 1, 0, 0);
        hold(due, 1, 3, 3, 6, 1, 0, 0);
        hold(due, 1, 3, 4, 6, 1, 0, 0);
        hold(due, 0, 3, 5, 6, 1, 0, 0);
        hold(due, 0, 3, 9, 6, 1, 0, 0);
        hold(due, 0, 3, 9, 0, 9, 0, 0);
    }

    private static void worker(Due due) {
        hold(due, 18, 2, 9, 9, 0, 9, 0);
        hold(due, 9, 2, 9, 9, 0, 9, 9);
        hold(due, 1, 2, 9, 5, 1, 1, 4);
        hold(due, 0, 2, 0, 5, 1, 1, 5);
        hold(due, 0, 2, 0, 5, 1, 1, 6);
        hold(due, 0, 2, 0, 0, 9, 0, 9);
    }

    private static void maker(Due due) {
        hold(due, 23, 4, 9, 9, 0, 9, 0);
        hold(due, 14, 4, 9, 9, 0, 9, 9);
        hold(due, 6, 4, 9, 5, 1, 1, 4);
        hold(due, 5, 4, 0, 5, 1, 1, 5);
        hold(due, 5, 4, 0, 5, 1, 1, 6);
        hold(due, 5, 4, 0, 0, 9, 0, 9);
    }

    private static void child(Due due) {
        hold(due, 36, 5, 9, 9, 0, 9, 9);
        hold(due, 18, 5, 9, 9, 9, 9, 9);
        hold(due, 2, 5, 9, 3, 4, 2, 9);
        hold(due, 0, 5, 9, 3, 5, 2, 9);
        hold(due, 0, 5, 0, 3, 6, 2, 0);
        hold(due, 0, 5, 0, 0, 9, 0, 0);
    }

    private static void yearMore(Due due) {
        LostBeforeSung x = Made.plain(1, 2);
        x.mark(0, 1, 1);
        x.mark(0, 2, 1);
        x.mark(1, 2, 1);
        due.be("the first YEAR", x.pass(), 1);
        due.be("ahead of all else", x.songs(3), 1);
        x.tell(1, 998);
        due.be("the last YEAR", x.pass(), 999);
        due.be("no later one", x.pass(), 999);
        due.be("no later one", x.status(3), 999);
        x.tell(1, 998);
        x.drawn(2);
        due.be("by draws, too", x.status(3), 999);
    }

    private static void heldMore(Due due) {
        LostBeforeSung x = Made.plain(8, 6);
        for (int p = 0; p < 8; p++) {
            x.give(p, 2, 1);
            for (int s = 0; s < 6; s++) {
                x.knows(p, s, s == 0 ? 98 : s == 1 ? 99 : s == 2 ? 0 : s == 3 ? 97 : s == 4 ? -1 : 8 * p);
            }
        }
        for (int year = 1; year <= 2; year++) {
            x.pass();
            for (int p = 0; p < 8; p++) {
                int[] held = {99, 99, year, 97 + year, 100, 8 * p + year};
                for (int s = 0; s < 6; s++) {
                    due.be("years(" + p + ", " + s + ") behind " + year, x.years(p, s), held[s]);
                }
            }
        }
    }

    private static void aboveHold(Due due) {
        LostBeforeSung x = Made.plain(0, 6);
        for (int p = 0; p < 8; p++) {
            x.person(p == 7 ? 5 : 0, 0, p, 0);
            for (int s = 0; s < 6; s++) {
                x.knows(p, s, s);
            }
        }
        x.pass();
        for (int p = 0; p < 8; p++) {
            int hold = p == 7 ? 14 : p;
            for (int s = 0; s < 6; s++) {
                due.be("HOLD " + hold + ", years " + s, x.years(p, s), s + 1 <= hold ? s + 1 : 100);
            }
        }
        LostBeforeSung y = new LostBeforeSung();
        y.person(5, 0, 9, 0);
        y.song(9, 0);
        y.knows(0, 0, 35);
        y.pass();
        due.be("at the greatest HOLD", y.years(0, 0), 36);
        y.pass();
        due.be("above the greatest HOLD", y.years(0, 0), 100);
        y.knows(0, 0, 99);
        y.pass();
        due.be("99, and 99 is above it", y.years(0, 0), 100);
    }

    private static void hummersKeep(Due due) {
        LostBeforeSung x = Made.plain(8, 1);
        for (int p = 0; p < 8; p++) {
            x.knows(p, 0, p == 7 ? 99 : 0);
            x.give(p, 2, p % 2);
        }
        x.pass();
        for (int p = 0; p < 8; p++) {
            due.be("years(" + p + ", 0)", x.years(p, 0), p == 7 ? 99 : p % 2 == 1 ? 1 : 100);
        }
        x.give(1, 2, 0);
        x.pass();
        due.be("who HUMS no more", x.years(1, 0), 100);
        due.be("who HUMS", x.years(3, 0), 2);
        due.be("he gets nothing by it", x.songOf(0, 3), 8 + 32 + 128);
    }

    private static void childrenPickUp(Due due) {
        for (int kind = 0; kind < 6; kind++) {
            LostBeforeSung x = Made.plain(1, 6);
            x.person(kind, 0, 9, 0);
            x.give(0, 2, 1);
            x.seat(0, 1, 1);
            x.knows(0, 0, 5);
            x.knows(0, 5, 5);
            x.pass();
            due.be("KIND " + kind + ", the first SONG", x.years(1, 0), kind == 5 ? 0 : 100);
            due.be("KIND " + kind + ", the last SONG", x.years(1, 5), kind == 5 ? 0 : 100);
            due.be("KIND " + kind + ", nothing else", x.personOf(1, 6), kind == 5 ? 33 : 0);
        }
        LostBeforeSung y = Made.plain(1, 1);
        y.give(0, 2, 1);
        y.knows(0, 0, 0);
        for (int p = 1; p < 8; p++) {
            y.person(5, 0, 0, 9);
            y.seat(0, p, 1);
        }
        y.pass();
        due.be("each of them", y.songOf(0, 3), 255);
        y.pass();
        due.be("of HOLD 0: forgotten, and picked up anew", y.years(7, 0), 0);
        y.give(3, 2, 1);
        y.pass();
        due.be("a child who HUMS keeps it", y.years(3, 0), 1);
        y.knows(3, 0, -1);
        y.pass();
        due.be("a child who HUMS picks up, too", y.years(3, 0), 0);
    }

    private static void onlyWhatHeLacks(Due due) {
        LostBeforeSung x = Made.plain(1, 2);
        x.person(5, 0, 9, 0);
        x.give(0, 2, 1);
        x.knows(0, 0, 0);
        x.knows(0, 1, 0);
        x.knows(1, 0, 4);
        x.seat(0, 1, 1);
        x.pass();
        due.be("what he has is no newer", x.years(1, 0), 5);
        due.be("what he lacks", x.years(1, 1), 0);
        x.pass();
        due.be("what he has is no newer", x.years(1, 0), 6);
        due.be("what he has is no newer", x.years(1, 1), 1);
        x.knows(1, 0, 18);
        x.pass();
        due.be("what he forgets just then he lacks", x.years(1, 0), 0);
    }

    private static void hasByThen(Due due) {
        LostBeforeSung x = Made.plain(0, 3);
        x.person(0, 0, 4, 0);
        x.person(5, 0, 0, 0);
        x.person(0, 0, 4, 0);
        x.seat(0, 1, 1);
        x.knows(0, 0, 3);
        x.knows(0, 1, 4);
        x.knows(2, 2, 0);
        x.pass();
        due.be("who keeps it to his HOLD", x.years(1, 0), 0);
        due.be("who forgets it just then", x.years(1, 1), 100);
        due.be("who sits elsewhere", x.years(1, 2), 100);
        x.seat(2, 1, 1);
        x.seat(0, 1, 0);
        x.knows(0, 1, 0);
        x.pass();
        due.be("who sits BESIDE now", x.years(1, 2), 0);
        due.be("who doesn't any more", x.years(1, 1), 100);
        // What is found in this YEAR is found behind the picking up.
        LostBeforeSung y = Made.plain(1, 2);
        y.person(5, 0, 0, 0);
        y.give(0, 0, 9);
        y.give(0, 2, 1);
        y.seat(0, 1, 1);
        y.mark(0, 1, 1);
        y.mark(0, 2, 1);
        y.mark(1, 2, 1);
        y.knows(0, 1, 0);
        y.pass();
        due.be("found", y.years(0, 0), 0);
        due.be("found too late for the child", y.years(1, 0), 100);
        due.be("what is LOST, and somebody HAS", y.years(1, 1), 0);
        due.be("that leaves it LOST", y.songOf(1, 2), 1);
        y.pass();
        due.be("in the next YEAR", y.years(1, 0), 0);
    }

    private static void aheadOfAllPickingUp(Due due) {
        for (int first = 0; first < 2; first++) {
            LostBeforeSung x = Made.plain(0, 1);
            // The hummer is the first or the last of a line of children.
            int hummer = first == 0 ? 0 : 4;
            for (int p = 0; p < 5; p++) {
                x.person(p == hummer ? 0 : 5, 0, 9, 0);
            }
            for (int p = 1; p < 5; p++) {
                x.seat(p, p - 1, 1);
            }
            x.give(hummer, 2, 1);
            x.knows(hummer, 0, 0);
            for (int year = 1; year <= 4; year++) {
                x.pass();
                int bits = (2 << year) - 1;
                due.be("one more each YEAR", x.songOf(0, 3), first == 0 ? bits : bits << 4 - year);
            }
        }
        LostBeforeSung y = Made.plain(0, 1);
        y.person(5, 0, 1, 0);
        y.person(5, 0, 2, 0);
        y.seat(0, 1, 1);
        y.knows(0, 0, 2);
        y.knows(1, 0, 4);
        y.pass();
        due.be("both forget it: neither picks it up", y.songOf(0, 3), 0);
    }

    private static void lostEarlier(Due due) {
        for (int year = 0; year < 5; year++) {
            LostBeforeSung x = Made.plain(1, 2);
            x.tell(1, year);
            x.mark(0, 1, (year + 1) % 5);
            x.mark(1, 1, (year + 1) % 5);
            x.mark(1, 2, 1);
            x.pass();
            due.be("LOST just now", x.songOf(0, 2), 1);
            due.be("LOST just now", x.years(0, 0), 100);
            due.be("LOST earlier", x.songOf(1, 2), 2);
            for (int i = 0; i < 4; i++) {
                x.pass();
                due.be("not yet", x.songOf(0, 2), 1);
            }
            x.pass();
            due.be("five YEARS later", x.songOf(0, 2), 2);
            due.be("five YEARS later", x.years(0, 0), 0);
        }
        LostBeforeSung y = Made.plain(1, 2);
        y.mark(0, 1, 2);
        y.pass();
        y.pass();
        due.be("LOST in the YEAR ahead", y.songOf(0, 2), 2);
        due.be("the other isn't yet", y.songOf(1, 2), 1);
        // Only what is LOST: neither a new SONG somebody HAS nor one that is SUNG already.
        LostBeforeSung z = Made.plain(2, 2);
        z.give(1, 2, 1);
        z.knows(1, 0, 0);
        z.mark(1, 2, 2);
        for (int i = 0; i < 10; i++) {
            z.pass();
        }
        due.be("a new SONG", z.songOf(0, 3), 2);
        due.be("a new SONG", z.songOf(0, 2), 0);
        due.be("a SUNG one", z.songOf(1, 3), 0);
        due.be("a SUNG one", z.songOf(1, 2), 2);
    }

    private static void soundOfYear(Due due) {
        int[] years = {0, 3, 4, 5, 9, 123, 994, 997, 998, 999};
        for (int year : years) {
            LostBeforeSung x = Made.plain(1, 6);
            for (int s = 0; s < 6; s++) {
                x.mark(s, 1, s == 5 ? 4 : s);
                x.mark(s, 2, 1);
            }
            x.tell(1, year);
            x.pass();
            int then = year == 999 ? 999 : year + 1;
            due.be("SUNG in " + then, x.songs(3), then % 5 == 4 ? 16 + 32 : 1 << then % 5);
            due.be("and all others LOST", x.songs(2), 63 - (then % 5 == 4 ? 16 + 32 : 1 << then % 5));
            due.be("and had", x.personOf(0, 6), x.songs(3));
        }
        LostBeforeSung y = Made.plain(1, 1);
        y.mark(0, 2, 1);
        y.tell(1, 999);
        for (int i = 0; i < 12; i++) {
            y.pass();
        }
        due.be("999 is 4 for ever", y.songOf(0, 2), 1);
    }

    private static void ifAnybody(Due due) {
        LostBeforeSung x = Made.plain(0, 2);
        x.mark(0, 2, 1);
        x.mark(0, 1, 1);
        x.mark(1, 1, 2);
        for (int year = 1; year <= 11; year++) {
            x.pass();
            due.be("nobody is there", x.songs(2), 3);
            due.be("nobody is there", x.songs(0), 0);
        }
        x.person(0, 0, 0, 0);
        x.pass();
        due.be("somebody is there", x.songs(3), 2);
        due.be("somebody is there", x.songs(2), 1);
    }

    private static void foundBy(Due due) {
        int[][] memories = {{0, 0, 0}, {9, 9, 9}, {8, 9, 9}, {8, 8, 9}, {9, 8, 9}, {0, 1, 0}, {7, 6, 5}};
        int[] finder = {0, 0, 1, 2, 0, 1, 0};
        for (int i = 0; i < memories.length; i++) {
            LostBeforeSung x = new LostBeforeSung();
            for (int p = 0; p < 3; p++) {
                // Neither GRIEF nor KIND nor a tells.
                x.person(p == finder[i] ? 3 : 5, p == finder[i] ? 9 : 0, memories[i][p], p == finder[i] ? 9 : 0);
            }
            x.song(0, 1);
            x.mark(0, 2, 1);
            x.pass();
            due.be("the finder", x.songOf(0, 3), 1 << finder[i]);
        }
        LostBeforeSung y = Made.plain(8, 6);
        y.give(7, 0, 1);
        for (int s = 0; s < 6; s++) {
            y.mark(s, 1, 1);
            y.mark(s, 2, 1);
        }
        y.pass();
        due.be("the last finds all", y.personOf(7, 6), 63);
    }

    private static void foundAnew(Due due) {
        LostBeforeSung x = Made.plain(2, 2);
        x.give(1, 0, 9);
        x.mark(0, 1, 1);
        x.mark(0, 2, 1);
        x.knows(0, 0, 0);
        x.knows(1, 0, 5);
        x.give(0, 2, 1);
        x.pass();
        due.be("the finder, who had it for 6 years", x.years(1, 0), 0);
        due.be("who had it, too", x.years(0, 0), 1);
        due.be("it is SUNG", x.songOf(0, 2), 2);
        // Of HOLD 0 he HAS it still in the YEAR he found it, and forgets it in the next.
        LostBeforeSung y = Made.plain(1, 1);
        y.mark(0, 1, 1);
        y.mark(0, 2, 1);
        y.pass();
        due.be("found", y.years(0, 0), 0);
        y.pass();
        due.be("forgotten", y.years(0, 0), 100);
        due.be("SUNG for ever", y.songOf(0, 2), 2);
        for (int i = 0; i < 10; i++) {
            y.pass();
        }
        due.be("not found twice", y.years(0, 0), 100);
    }

    private static void lostNow(Due due) {
        LostBeforeSung x = Made.plain(0, 6);
        x.mark(1, 2, 2);
        x.mark(2, 2, 1);
        due.be("nobody is there", x.pass(), 1);
        due.be("new no more", x.songs(1), 0);
        due.be("LOST", x.songs(2), 63 - 2);
        due.be("SUNG still", x.songs(3), 2);
        LostBeforeSung y = Made.plain(8, 2);
        y.give(7, 0, 2);
        y.knows(7, 0, 0);
        y.knows(7, 1, 1);
        y.knows(0, 1, 0);
        y.pass();
        due.be("somebody HAS both", y.songs(1), 3);
        y.pass();
        due.be("in the YEAR the last forgets it", y.songs(2), 2);
        due.be("somebody HAS the other", y.songs(1), 1);
        y.pass();
        due.be("in the YEAR the last forgets it", y.songs(2), 3);
        y.mark(0, 2, 0);
        y.pass();
        due.be("new again, and LOST again", y.songs(2), 3);
        // Who forgets it and who picks it up in one YEAR: it is new still.
        LostBeforeSung z = Made.plain(0, 1);
        z.person(5, 0, 1, 0);
        z.person(5, 0, 1, 0);
        z.seat(0, 1, 1);
        z.knows(0, 0, 1);
        z.knows(1, 0, 2);
        z.pass();
        due.be("picked up anew", z.years(1, 0), 0);
        due.be("new still", z.songOf(0, 2), 0);
    }
}
