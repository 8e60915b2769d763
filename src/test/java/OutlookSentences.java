/** What comes of it: the third part of the terms but TUNES, promises 24 to 34, 39, 40, 47 and 49, by sentences. */
final class OutlookSentences {
    private OutlookSentences() {
    }

    static void all(Sentences t) {
        t.of(Sentences.TERMS, "(nothing is changed)", OutlookSentences::nothingIsChanged);
        t.of(Sentences.TERMS, "BEHIND n YEARS (0 to 60):", due -> {
            behindAsInTruth(due);
            fullBehindAsInTruth(due);
        });
        t.of(Sentences.TERMS, "who HAS a SONG (bits), its STATE, SONGS that are KNOWN (somebody has them; bits).",
            OutlookSentences::behindBits);
        t.of(Sentences.TERMS, "LOST IN: behind how many YEARS (0 to 60) it isn't new any more (0: now); NONE.",
            OutlookSentences::lostInTerm);
        t.of(Sentences.TERMS, "SUNG IN: behind how many it is SUNG; NONE.", OutlookSentences::sungInTerm);
        t.of(Sentences.TERMS, "LAST: who HAD it (bits) ahead of the YEAR in which it is LOST;", OutlookSentences::lastTerm);
        t.of(Sentences.TERMS, "NONE: never (or it isn't new now).", OutlookSentences::lastNone);
        t.of(Sentences.TERMS, "FINDER now: the one of greatest MEMORY.", OutlookSentences::finderNow);
        t.of(Sentences.TERMS, "KEEP a SONG from: the one by whose sitting BESIDE nobody it is LOST soonest,",
            OutlookSentences::keepTerm);
        t.of(Sentences.TERMS, ", of several the first; NONE: by none.", OutlookSentences::keepOfSeveral);
        t.of(Sentences.TERMS, "WORK FOR: the least WORK by which it is LOST in n YEARS (0 to 60) at most; NONE.",
            OutlookSentences::workForTerm);
        t.of(Sentences.TERMS, "TEACH k (0 to 8): the set of k PEOPLE", OutlookSentences::teachTerm);
        t.of(Sentences.TERMS, "who don't HAVE it (bits),", OutlookSentences::teachOthers);
        t.of(Sentences.TERMS, "who, if they had it for 0 years, too, would make it LOST soonest,",
            OutlookSentences::teachSoonest);
        t.of(Sentences.TERMS, "of several the least as bits;", OutlookSentences::teachLeastAsBits);
        t.of(Sentences.TERMS, "NONE: not so many, or never.", OutlookSentences::teachNone);
        t.of(Sentences.TERMS, "HUMMER: the one of those who HAVE it who, if he HUMMED, too, would keep it new longest "
            + "(never LOST is longest), of several the first;", OutlookSentences::hummerTerm);
        t.of(Sentences.TERMS, "NONE: nobody HAS it.", OutlookSentences::hummerNone);
        t.of(Sentences.TERMS, "NEXT to be LOST: the SONG that is new and LOST soonest, of several the first; NONE.",
            OutlookSentences::nextTerm);
        t.of(Sentences.TERMS, "ORDER: SONGS by LOST IN (never is latest),", OutlookSentences::orderTerm);
        t.of(Sentences.TERMS, "of several alike by numbers:", OutlookSentences::orderOfSeveral);
        t.of(Sentences.TERMS, "the i-th.", OutlookSentences::orderPlaces);
        t.of(Sentences.TERMS, "MEMORIES (bits 0 to 9),", OutlookSentences::memoriesTerm);
        t.of(Sentences.TERMS, "KINDS (bits)", OutlookSentences::kindsTerm);
        t.of(Sentences.TERMS, "of one by which a told ROW of sets (SONGS as bits he HAS behind 1, 2, .. YEARS) is so,",
            OutlookSentences::fitsSets);
        t.of(Sentences.TERMS, "all else as it is.", OutlookSentences::fitsAllElse);
        t.of(Sentences.TERMS, "GRIEFS: the least GRIEF (0 to 9) by which, behind one of the next n YEARS, he doesn't HAVE "
            + "a SONG he HAS now; NONE.", OutlookSentences::griefsTerm);
        t.of(Sentences.TERMS, "A told LOG: a ROW of sets (KNOWN SONGS as bits, behind 1, 2, .. YEARS):",
            OutlookSentences::logTerm);
        t.of(Sentences.TERMS, "WRONG: the first that isn't so; NONE.", OutlookSentences::wrongTerm);
        t.of(24, "BEHIND n YEARS: who HAS a SONG (what 0; bits), its STATE (1), KNOWN SONGS (2; bits).",
            OutlookSentences::behind);
        t.of(24, "BAD.", OutlookSentences::behindBad);
        t.of(25, "LOST IN;", OutlookSentences::lostIn);
        t.of(25, "NONE. BAD.", OutlookSentences::lostInBad);
        t.of(25, "(NONE isn't refused.)", OutlookSentences::lostInNone);
        t.of(26, "SUNG IN;", OutlookSentences::sungIn);
        t.of(26, "NONE. BAD.", OutlookSentences::sungInBad);
        t.of(26, "(NONE isn't refused.)", OutlookSentences::sungInNone);
        t.of(27, "LAST (bits);", OutlookSentences::last);
        t.of(27, "NONE. BAD.", OutlookSentences::lastBad);
        t.of(27, "(NONE isn't refused.)", OutlookSentences::lastNotRefused);
        t.of(29, "KEEP a SONG from;", OutlookSentences::keep);
        t.of(29, "NONE. BAD.", OutlookSentences::keepBad);
        t.of(29, "(NONE isn't refused.)", OutlookSentences::keepNotRefused);
        t.of(30, "WORK FOR;", OutlookSentences::workFor);
        t.of(30, "NONE. BAD.", OutlookSentences::workForBad);
        t.of(30, "(NONE isn't refused.)", OutlookSentences::workForNone);
        t.of(31, "TEACH k (bits);", OutlookSentences::teach);
        t.of(31, "NONE. BAD.", OutlookSentences::teachBad);
        t.of(31, "(NONE isn't refused.)", OutlookSentences::teachNotRefused);
        t.of(32, "HUMMER;", OutlookSentences::hummer);
        t.of(32, "NONE. BAD.", OutlookSentences::hummerBad);
        t.of(32, "(NONE isn't refused.)", OutlookSentences::hummerNotRefused);
        t.of(33, "NEXT to be LOST;", OutlookSentences::next);
        t.of(33, "NONE. (NONE isn't refused.)", OutlookSentences::nextNone);
        t.of(34, "ORDER: the i-th.", OutlookSentences::order);
        t.of(34, "BAD: no i-th.", OutlookSentences::orderBad);
        t.of(39, "MEMORIES (what 0), KINDS (1) of one by the first n elements (0 to 12) of the ROW in SHELF s.",
            OutlookSentences::fits);
        t.of(39, "BAD SHELF, n, person, what;", OutlookSentences::fitsBad);
        t.of(39, "OTHER;", OutlookSentences::fitsOther);
        t.of(39, "NOTHING;", OutlookSentences::fitsNothing);
        t.of(39, "BAD: fewer elements.", OutlookSentences::fitsFewer);
        t.of(40, "GRIEFS; NONE.", OutlookSentences::griefs);
        t.of(40, "BAD: also n (0 to 60);", OutlookSentences::griefsBad);
        t.of(40, "STUCK: he doesn't HAVE it.", OutlookSentences::griefsStuck);
        t.of(40, "(NONE isn't refused.)", OutlookSentences::griefsNone);
        t.of(47, "Behind how many YEARS (0 to 60) one first doesn't HAVE a SONG;", OutlookSentences::forgets);
        t.of(47, "0: he doesn't now;", OutlookSentences::forgetsNow);
        t.of(47, "; NONE. BAD.", OutlookSentences::forgetsBad);
        t.of(47, "(NONE isn't refused.)", OutlookSentences::forgetsNever);
        t.of(49, "A told LOG by the first n elements (0 to 40) of the ROW in SHELF s: WRONG; NONE.", OutlookSentences::judge);
        t.of(49, "BAD SHELF, n;", OutlookSentences::judgeBad);
        t.of(49, "OTHER;", OutlookSentences::judgeOther);
        t.of(49, "NOTHING;", OutlookSentences::judgeNothing);
        t.of(49, "BAD: fewer elements.", OutlookSentences::judgeFewer);
    }

    /** An islander of HOLD 4 on the song 0 (SOUND 3), who has it for 0 years: LOST in 5, SUNG in 8. */
    private static LostBeforeSung one() {
        LostBeforeSung x = new LostBeforeSung();
        x.person(0, 0, 3, 1);
        x.song(2, 3);
        x.knows(0, 0, 0);
        return x;
    }

    private static LostBeforeSung hummed() {
        LostBeforeSung x = one();
        x.give(0, 2, 1);
        return x;
    }

    /**
     * Two children of HOLD 8 and 6, who forget a song behind 9 less years and 7 less others YEARS and every 9th and 7th
     * from then on, and pick it up anew from each other, until both forget it in the same YEAR.
     */
    private static LostBeforeSung twoChildren(int years, int others, int sound) {
        LostBeforeSung x = new LostBeforeSung();
        x.person(5, 0, 4, 0);
        x.person(5, 0, 3, 0);
        x.song(0, sound);
        x.seat(0, 1, 1);
        x.knows(0, 0, years);
        x.knows(1, 0, others);
        return x;
    }

    /** LOST in 60: the 6th of 9 and the 4th of 7. */
    private static LostBeforeSung lostIn60() {
        return twoChildren(3, 3, 0);
    }

    /** LOST in 61: the 7th of 9 and the 5th of 7. */
    private static LostBeforeSung lostIn61() {
        return twoChildren(2, 2, 0);
    }

    private static LostBeforeSung songAlone() {
        return Made.plain(0, 1);
    }

    private static LostBeforeSung inState(int state) {
        LostBeforeSung x = one();
        x.mark(0, 2, state);
        return x;
    }

    private static void nothingIsChanged(Due due) {
        for (int k = 0; k < 2; k++) {
            int s = k;
            long[] answers = new long[28];
            Made.Call all = x -> {
                long[] a = {x.behind(s, 60, 0), x.behind(s, 60, 1), x.behind(s, 60, 2), x.lostIn(s), x.sungIn(s), x.last(s),
                    x.finder(), x.keep(s), x.workFor(s, 60), x.teach(s, 0), x.teach(s, 1), x.teach(s, 2), x.hummer(s),
                    x.next(), x.order(s), x.changes(s, 1 - s), x.join(s, 1 - s), x.like(s, 1 - s), x.nearest(0, 4, 0),
                    x.nearest(0, 4, 1), x.fits(0, 4, 0, 0), x.fits(0, 4, 0, 1), x.griefs(s * 2, s, 60), x.weakest(s),
                    x.forgets(s * 2, s), x.judge(0, 4), x.table(s), x.hold(0, s)};
                System.arraycopy(a, 0, answers, 0, a.length);
                return 0;
            };
            Made.asked(due, "all questions on " + s, 0, all);
            long[] before = answers.clone();
            LostBeforeSung x = Made.usual();
            all.on(x);
            all.on(x);
            for (int i = 0; i < before.length; i++) {
                due.be("asked again " + i, answers[i], before[i]);
            }
        }
    }

    /** Something happens in most YEARS: children, a worker's songs, songs called up. */
    private static LostBeforeSung busy() {
        LostBeforeSung x = new LostBeforeSung();
        x.person(5, 0, 4, 0);
        x.person(5, 0, 3, 0);
        x.person(2, 0, 8, 0);
        x.person(0, 0, 6, 2);
        x.song(0, 0);
        x.song(2, 3);
        x.seat(0, 1, 1);
        x.seat(1, 2, 1);
        x.knows(0, 0, 3);
        x.knows(1, 0, 3);
        x.knows(2, 1, 2);
        return x;
    }

    private static void behindAsInTruth(Due due) {
        for (int song = 0; song < 2; song++) {
            LostBeforeSung x = busy();
            LostBeforeSung y = busy();
            for (int n = 0; n <= 60; n++) {
                due.be("who HAS " + song + " behind " + n, x.behind(song, n, 0), y.songOf(song, 3));
                due.be("STATE of " + song + " behind " + n, x.behind(song, n, 1), y.songOf(song, 2));
                due.be("KNOWN behind " + n, x.behind(song, n, 2), y.songs(0));
                y.pass();
            }
            due.be("n 61", x.behind(song, 61, 0), Made.BAD);
            due.be("n -1", x.behind(song, -1, 0), Made.BAD);
            due.be("refusals", Made.refusals(x), 2000000000000L);
        }
    }

    /** As many of each as there can be, of all KINDS, and all SONGS new. */
    private static LostBeforeSung busiest() {
        LostBeforeSung x = Made.fullOfAll();
        for (int p = 0; p < 8; p++) {
            x.give(p, 2, 0);
            x.seat(p, (p + 3) % 8, 0);
        }
        for (int s = 0; s < 6; s++) {
            x.mark(s, 2, 0);
            for (int p = 0; p < 8; p++) {
                x.knows(p, s, p % 2 == 0 ? p / 2 : -1);
            }
        }
        x.tell(0, 4);
        return x;
    }

    private static void fullBehindAsInTruth(Due due) {
        for (int song = 0; song < 6; song++) {
            LostBeforeSung x = busiest();
            LostBeforeSung y = busiest();
            for (int n = 0; n <= 30; n++) {
                due.be("of all there can be, who HAS " + song + " behind " + n, x.behind(song, n, 0), y.songOf(song, 3));
                due.be("of all there can be, STATE of " + song + " behind " + n, x.behind(song, n, 1), y.songOf(song, 2));
                due.be("of all there can be, KNOWN behind " + n, x.behind(song, n, 2), y.songs(0));
                y.pass();
            }
        }
    }

    private static void behindBits(Due due) {
        LostBeforeSung x = Made.plain(8, 6);
        for (int p = 0; p < 8; p++) {
            x.give(p, 0, p);
            x.knows(p, 5, 0);
        }
        x.knows(7, 0, 0);
        for (int n = 0; n <= 8; n++) {
            due.be("who HAS the last behind " + n, x.behind(5, n, 0), 255 & 255 << n);
            due.be("who HAS the first behind " + n, x.behind(0, n, 0), n <= 7 ? 128 : 0);
            due.be("STATE of the last behind " + n, x.behind(5, n, 1), n <= 7 ? 0 : 1);
        }
        // The songs 1 to 4 are LOST in YEAR 1, all are called up in YEARS 5, 10, ..: by 7, who has them till YEAR 12.
        due.be("KNOWN now", x.behind(1, 0, 2), 33);
        due.be("KNOWN behind 4", x.behind(1, 4, 2), 33);
        due.be("KNOWN behind 5", x.behind(1, 5, 2), 63);
        due.be("KNOWN behind 8", x.behind(1, 8, 2), 63 - 33);
        due.be("KNOWN behind 13", x.behind(1, 13, 2), 33);
        due.be("KNOWN behind 60", x.behind(1, 60, 2), 0);
        due.be("STATE behind 60", x.behind(0, 60, 1), 2);
    }

    private static void lostInTerm(Due due) {
        due.be("LOST now", inState(1).lostIn(0), 0);
        due.be("SUNG now", inState(2).lostIn(0), 0);
        due.be("nobody HAS it", Made.plain(1, 1).lostIn(0), 1);
        due.be("nobody is there", songAlone().lostIn(0), 1);
        due.be("HOLD 4", one().lostIn(0), 5);
        due.be("60", lostIn60().lostIn(0), 60);
        due.be("61 is never", lostIn61().lostIn(0), -1);
        due.be("a hummer HAS it", hummed().lostIn(0), -1);
        LostBeforeSung x = lostIn61();
        x.pass();
        due.be("a YEAR later", x.lostIn(0), 60);
    }

    private static void sungInTerm(Due due) {
        due.be("SUNG now", inState(2).sungIn(0), 0);
        due.be("LOST now", inState(1).sungIn(0), 3);
        due.be("new now", one().sungIn(0), 8);
        due.be("LOST in 55, SOUND 0: 60", twoChildren(8, 1, 0).sungIn(0), 60);
        due.be("LOST in 56, SOUND 0: 60", twoChildren(7, 0, 0).sungIn(0), 60);
        due.be("LOST in 56, SOUND 1: 61 is never", twoChildren(7, 0, 1).sungIn(0), -1);
        due.be("LOST in 60, and not found in it", lostIn60().sungIn(0), -1);
        due.be("never LOST", hummed().sungIn(0), -1);
        due.be("nobody is there", songAlone().sungIn(0), -1);
        LostBeforeSung x = Made.plain(1, 1);
        due.be("LOST in 1, found in 5", x.sungIn(0), 5);
        x.mark(0, 1, 1);
        due.be("LOST in 1, and not found in it", x.sungIn(0), 6);
        x.mark(0, 1, 2);
        due.be("in the YEAR behind it", x.sungIn(0), 2);
        x.tell(1, 998);
        due.be("999 is 4 for ever", x.sungIn(0), -1);
        x.mark(0, 1, 4);
        due.be("999 is 4 for ever", x.sungIn(0), 2);
    }

    private static void lastTerm(Due due) {
        due.be("nobody now", Made.plain(1, 1).last(0), 0);
        due.be("nobody is there", songAlone().last(0), 0);
        due.be("one", one().last(0), 1);
        due.be("in 60", lostIn60().last(0), 3);
        LostBeforeSung x = Made.plain(8, 6);
        for (int p = 0; p < 8; p++) {
            x.knows(p, 5, 0);
        }
        due.be("all of them", x.last(5), 255);
        x.give(7, 0, 1);
        due.be("who has it longest", x.last(5), 128);
        x.give(0, 0, 1);
        due.be("the two", x.last(5), 129);
        x.knows(0, 5, 1);
        due.be("not who forgets it ahead", x.last(5), 128);
        due.be("another SONG", x.last(0), 0);
    }

    private static void lastNone(Due due) {
        due.be("LOST now", inState(1).last(0), -1);
        due.be("SUNG now", inState(2).last(0), -1);
        due.be("a hummer HAS it", hummed().last(0), -1);
        due.be("LOST in 61", lostIn61().last(0), -1);
        LostBeforeSung x = Made.plain(1, 1);
        x.mark(0, 2, 1);
        due.be("LOST, and nobody HAS it", x.last(0), -1);
        for (int alone = 0; alone < 6; alone++) {
            for (int state = 1; state < 3; state++) {
                LostBeforeSung y = Made.plain(8, 6);
                LostBeforeSung z = Made.plain(8, 6);
                for (int s = 0; s < 6; s++) {
                    y.knows(s + 1, s, 0);
                    z.knows(s + 1, s, 0);
                    y.mark(s, 2, s == alone ? 0 : state);
                    z.mark(s, 2, s == alone ? state : 0);
                }
                for (int s = 0; s < 6; s++) {
                    due.be("new is " + alone + " alone: " + s, y.last(s), s == alone ? 2 << s : -1);
                    due.be("new are all but " + alone + ": " + s, z.last(s), s == alone ? -1 : 2 << s);
                }
            }
        }
    }

    private static void finderNow(Due due) {
        LostBeforeSung x = Made.plain(8, 1);
        x.mark(0, 2, 1);
        int[] memories = {3, 5, 5, 2, 8, 8, 1, 0};
        int[] finders = {0, 1, 1, 1, 4, 4, 4, 4};
        for (int p = 0; p < 8; p++) {
            x.give(p, 0, memories[p]);
            due.be("behind " + p, x.finder(), finders[p]);
            due.be("he finds it", x.behind(0, 5, 0), 1 << finders[p]);
        }
    }

    private static void keepTerm(Due due) {
        // The teller 0 forgets in YEAR 2; child 2 (HOLD 4) has it till YEAR 5, child 3 (HOLD 8) till YEAR 9.
        LostBeforeSung x = new LostBeforeSung();
        x.person(0, 0, 2, 0);
        x.person(0, 0, 9, 0);
        x.person(5, 0, 2, 0);
        x.person(5, 0, 4, 0);
        x.song(0, 0);
        x.knows(0, 0, 1);
        x.seat(0, 2, 1);
        x.seat(0, 3, 1);
        due.be("as it is", x.lostIn(0), 10);
        due.be("from the teller: LOST in 2", x.keep(0), 0);
        x.seat(2, 3, 1);
        due.be("from the teller still", x.keep(0), 0);
        x.knows(2, 0, 1);
        // From 0: child 2 still teaches child 3. From 2: 3 picks it up from 0. From 3: 2 has it till YEAR 5.
        due.be("from the child who keeps it longest", x.keep(0), 3);
        due.be("nothing is changed", x.personOf(3, 5), 5);
        LostBeforeSung y = lostIn60();
        y.person(0, 0, 0, 0);
        due.be("either child alone forgets it in 4 or 6: from 0, 1", y.keep(0), 0);
    }

    /** Three children of HOLD 12, 12 and 6, each BESIDE both others. */
    private static LostBeforeSung threeChildren(int first, int second, int third) {
        LostBeforeSung x = new LostBeforeSung();
        x.person(5, 0, 6, 0);
        x.person(5, 0, 6, 0);
        x.person(5, 0, 3, 0);
        x.song(0, 0);
        x.seat(0, 1, 1);
        x.seat(0, 2, 1);
        x.seat(1, 2, 1);
        x.knows(0, 0, first);
        x.knows(1, 0, second);
        x.knows(2, 0, third);
        return x;
    }

    private static void keepOfSeveral(Due due) {
        due.be("whoever it is", one().keep(0), 0);
        LostBeforeSung x = Made.plain(8, 1);
        due.be("nobody HAS it: all alike", x.keep(0), 0);
        x.knows(7, 0, 0);
        due.be("nobody sits BESIDE another: all alike", x.keep(0), 0);
        due.be("LOST now: all alike", inState(1).keep(0), 0);
        due.be("SUNG now: all alike", inState(2).keep(0), 0);
        due.be("nobody is there", songAlone().keep(0), -1);
        due.be("by none: a hummer", hummed().keep(0), -1);
        // 0 forgets it in the 8th of 13 YEARS, 1 in the 9th, 2 in the 4th of 7: 0 and 2 meet in 60, 1 and 2 in 74.
        due.be("LOST in 60 by the second alone", threeChildren(5, 4, 3).keep(0), 1);
        due.be("in 61: by none", threeChildren(4, 3, 2).keep(0), -1);
        LostBeforeSung y = Made.plain(2, 1);
        y.person(5, 0, 3, 0);
        y.give(1, 0, 1);
        y.knows(1, 0, 0);
        y.seat(1, 2, 1);
        due.be("by the teller and by the child: the first", y.keep(0), 1);
        // The teller 1 forgets it in YEAR 5, the child BESIDE him in YEAR 6; 0 sits alone.
        LostBeforeSung z = Made.plain(2, 1);
        z.person(5, 0, 2, 0);
        z.give(1, 0, 4);
        z.knows(1, 0, 0);
        z.seat(1, 2, 1);
        due.be("a YEAR sooner is sooner", z.lostIn(0), 6);
        due.be("a YEAR sooner is sooner", z.keep(0), 1);
    }

    /** A worker of HOLD 18 less WORK, who has it for 0 years. */
    private static LostBeforeSung worker() {
        LostBeforeSung x = new LostBeforeSung();
        x.person(2, 0, 9, 0);
        x.song(9, 0);
        x.knows(0, 0, 0);
        return x;
    }

    private static void workForTerm(Due due) {
        LostBeforeSung x = worker();
        for (int now = 0; now <= 9; now += 9) {
            x.tell(0, now);
            due.be("in 60", x.workFor(0, 60), 0);
            due.be("in 19: WORK 0", x.workFor(0, 19), 0);
            due.be("in 18: WORK 1", x.workFor(0, 18), 1);
            due.be("in 11: WORK 8", x.workFor(0, 11), 8);
            due.be("in 10: WORK 9", x.workFor(0, 10), 9);
            due.be("in 9: by none", x.workFor(0, 9), -1);
            due.be("in 0: by none", x.workFor(0, 0), -1);
            due.be("WORK as it was", x.status(2), now);
        }
        due.be("LOST in 60", lostIn60().workFor(0, 60), 0);
        due.be("LOST in 60, not in 59", lostIn60().workFor(0, 59), -1);
        due.be("LOST in 61", lostIn61().workFor(0, 60), -1);
        due.be("a hummer HAS it", hummed().workFor(0, 60), -1);
        due.be("LOST now", inState(1).workFor(0, 0), 0);
        due.be("nobody is there, in 1", songAlone().workFor(0, 1), 0);
        due.be("nobody is there, in 0", songAlone().workFor(0, 0), -1);
    }

    private static void teachTerm(Due due) {
        LostBeforeSung x = Made.plain(8, 1);
        for (int k = 0; k <= 8; k++) {
            due.be("all alike, k " + k, x.teach(0, k), (1 << k) - 1);
        }
        due.be("k 9", x.teach(0, 9), Made.BAD);
        due.be("k -1", x.teach(0, -1), Made.BAD);
        due.be("nobody is there, k 0", songAlone().teach(0, 0), 0);
        due.be("nobody is there, k 1", songAlone().teach(0, 1), -1);
        for (int k = 0; k <= 8; k++) {
            LostBeforeSung y = Made.plain(k, 1);
            due.be("all of " + k, y.teach(0, k), (1 << k) - 1);
        }
    }

    private static void teachOthers(Due due) {
        LostBeforeSung x = Made.plain(8, 1);
        x.knows(0, 0, 99);
        x.knows(3, 0, 99);
        due.be("one", x.teach(0, 1), 2);
        due.be("three", x.teach(0, 3), 2 + 4 + 16);
        due.be("all others", x.teach(0, 6), 255 - 9);
        due.be("no seventh", x.teach(0, 7), -1);
        for (int p = 0; p < 8; p++) {
            x.knows(p, 0, 99);
        }
        due.be("none of them", x.teach(0, 0), 0);
        due.be("all HAVE it", x.teach(0, 1), -1);
    }

    private static void teachSoonest(Due due) {
        // HOLD 9, 3, 1, 3, 1: taught for 0 years LOST in 10, 4, 2, 4, 2; the second HAS it till YEAR 1.
        LostBeforeSung x = Made.plain(0, 1);
        for (int memory : new int[] {9, 3, 1, 3, 1}) {
            x.person(0, 0, memory, 0);
        }
        x.knows(1, 0, 3);
        due.be("none", x.teach(0, 0), 0);
        due.be("one", x.teach(0, 1), 4);
        due.be("two", x.teach(0, 2), 20);
        due.be("three", x.teach(0, 3), 28);
        due.be("four", x.teach(0, 4), 29);
        due.be("nothing is changed", x.songOf(0, 3), 2);
        // For 0 years: a child taught so teaches on.
        LostBeforeSung y = Made.plain(1, 1);
        y.person(5, 0, 3, 0);
        y.person(0, 0, 5, 0);
        y.person(0, 0, 6, 0);
        y.give(0, 0, 2);
        y.seat(0, 1, 1);
        // Taught 0 (HOLD 2), child 1 has it from YEAR 2 till YEAR 8; 1 from YEAR 0 till YEAR 6; 2 till 5; 3 till 6.
        due.be("the one by whom it is LOST in 6", y.teach(0, 1), 4);
        y.give(2, 0, 9);
        due.be("in 7, of two", y.teach(0, 1), 2);
        y.give(3, 0, 5);
        due.be("in 6 again", y.teach(0, 1), 8);
        // 2 HAS it till YEAR 2; for 0 years 0 (HOLD 3) would have it till YEAR 3, and 1 (HOLD 2) till YEAR 2.
        LostBeforeSung z = Made.plain(3, 1);
        z.give(0, 0, 3);
        z.give(1, 0, 2);
        z.give(2, 0, 2);
        z.knows(2, 0, 0);
        due.be("for 0 years, neither more nor fewer", z.teach(0, 1), 2);
        z.give(2, 0, 3);
        due.be("in 4 by both", z.teach(0, 1), 1);
    }

    private static void teachLeastAsBits(Due due) {
        LostBeforeSung x = Made.plain(8, 1);
        x.give(0, 0, 9);
        x.give(2, 0, 9);
        due.be("one of six", x.teach(0, 1), 2);
        due.be("two of six", x.teach(0, 2), 10);
        due.be("six", x.teach(0, 6), 255 - 5);
        due.be("seven: the least of both", x.teach(0, 7), 127);
        x.give(2, 0, 8);
        due.be("seven: the sooner", x.teach(0, 7), 254);
        due.be("LOST now: all alike", inStateOfEight(1).teach(0, 2), 3);
        due.be("SUNG now: all alike", inStateOfEight(2).teach(0, 2), 3);
    }

    private static LostBeforeSung inStateOfEight(int state) {
        LostBeforeSung x = Made.plain(8, 1);
        x.give(0, 0, 9);
        x.mark(0, 2, state);
        return x;
    }

    private static void teachNone(Due due) {
        due.be("LOST in 60", lostIn60().teach(0, 0), 0);
        due.be("LOST in 61", lostIn61().teach(0, 0), -1);
        LostBeforeSung x = lostIn60();
        x.person(0, 0, 0, 0);
        due.be("one more, LOST in 60 still", x.teach(0, 1), 4);
        due.be("not two", x.teach(0, 2), -1);
        LostBeforeSung y = lostIn61();
        y.person(0, 0, 0, 0);
        due.be("one more, LOST in 61 still", y.teach(0, 1), -1);
        due.be("a hummer HAS it", hummed().teach(0, 0), -1);
        LostBeforeSung z = Made.plain(2, 1);
        z.give(0, 2, 1);
        due.be("only without the hummer", z.teach(0, 1), 2);
        due.be("with the hummer: never", z.teach(0, 2), -1);
        due.be("not so many", z.teach(0, 3), -1);
        due.be("not so many", z.teach(0, 8), -1);
    }

    private static void hummerTerm(Due due) {
        LostBeforeSung x = Made.plain(8, 1);
        x.give(0, 0, 9);
        x.give(1, 2, 1);
        x.knows(7, 0, 0);
        due.be("the last", x.hummer(0), 7);
        x.knows(3, 0, 99);
        due.be("of several the first: both keep it for ever", x.hummer(0), 3);
        x.give(7, 2, 1);
        due.be("though one HUMS already", x.hummer(0), 3);
        x.mark(0, 2, 1);
        due.be("LOST now: all alike", x.hummer(0), 3);
        x.mark(0, 2, 2);
        due.be("SUNG now: all alike", x.hummer(0), 3);
        due.be("nothing is changed", x.personOf(3, 4), 0);
        due.be("who HUMS already", hummed().hummer(0), 0);
        LostBeforeSung y = Made.plain(3, 1);
        y.knows(1, 0, 0);
        y.knows(2, 0, 0);
        y.give(1, 2, 1);
        due.be("who HUMS already keeps it for ever by that, and is the first", y.hummer(0), 1);
        y.give(0, 2, 1);
        y.knows(0, 0, 0);
        due.be("both HUM already", y.hummer(0), 0);
        for (int havers = 1; havers < 256; havers++) {
            for (int state = 0; state < 3; state++) {
                due.be("who HAVE it: " + havers, hadAmongOthers(havers, 5, state).hummer(5),
                    Integer.numberOfTrailingZeros(havers));
                due.be("who HAVE it: " + havers, hadAmongOthers(havers, 2, state).hummer(2),
                    Integer.numberOfTrailingZeros(havers));
            }
        }
    }

    /** These HAVE the song of that number and STATE; each of the others is had by every third of the PEOPLE. */
    private static LostBeforeSung hadAmongOthers(int havers, int song, int state) {
        LostBeforeSung x = Made.plain(8, 6);
        x.mark(song, 2, state);
        for (int p = 0; p < 8; p++) {
            x.give(p, 0, p * 3 % 10);
            x.give(p, 2, p == 7 ? 1 : 0);
            for (int s = 0; s < 6; s++) {
                boolean has = s == song ? (havers >> p & 1) == 1 : (p + s) % 3 == 0;
                x.knows(p, s, has ? 0 : -1);
            }
        }
        return x;
    }

    private static void hummerNone(Due due) {
        due.be("nobody HAS it", Made.plain(8, 1).hummer(0), -1);
        due.be("nobody is there", songAlone().hummer(0), -1);
        LostBeforeSung x = Made.plain(8, 6);
        x.knows(7, 5, 0);
        due.be("another one", x.hummer(4), -1);
        due.be("that one", x.hummer(5), 7);
        x.knows(7, 5, -1);
        due.be("not any more", x.hummer(5), -1);
    }

    /** A hummer HAS song 1, 2 is LOST, 4 SUNG; 0, 3 and 5 are LOST in so many YEARS. */
    private static LostBeforeSung sixSongs(int first, int fourth, int sixth) {
        LostBeforeSung x = Made.plain(2, 0);
        x.give(1, 2, 1);
        for (int s = 0; s < 6; s++) {
            x.song(9, 0);
        }
        x.knows(1, 1, 0);
        x.mark(2, 2, 1);
        x.mark(4, 2, 2);
        x.knows(0, 0, 10 - first);
        x.knows(0, 3, 10 - fourth);
        x.knows(0, 5, 10 - sixth);
        return x;
    }

    private static void nextTerm(Due due) {
        due.be("the first", sixSongs(1, 2, 3).next(), 0);
        due.be("the last", sixSongs(3, 2, 1).next(), 5);
        due.be("between", sixSongs(9, 8, 10).next(), 3);
        due.be("of several the first", sixSongs(9, 8, 8).next(), 3);
        due.be("of several the first", sixSongs(8, 9, 8).next(), 0);
        due.be("LOST in 60", lostIn60().next(), 0);
        due.be("LOST in 61", lostIn61().next(), -1);
        due.be("never", hummed().next(), -1);
        due.be("LOST now", inState(1).next(), -1);
        due.be("SUNG now", inState(2).next(), -1);
        due.be("no SONGS", Made.plain(8, 0).next(), -1);
        due.be("nobody is there", Made.plain(0, 6).next(), 0);
    }

    private static void isOrder(Due due, String what, LostBeforeSung x, int... order) {
        for (int i = 0; i < order.length; i++) {
            due.be(what + ", order(" + i + ")", x.order(i), order[i]);
        }
        due.be(what + ", no more", x.order(order.length), Made.BAD);
    }

    private static void orderTerm(Due due) {
        isOrder(due, "by turns", sixSongs(3, 2, 1), 2, 4, 5, 3, 0, 1);
        isOrder(due, "up", sixSongs(1, 2, 3), 2, 4, 0, 3, 5, 1);
        LostBeforeSung x = lostIn60();
        x.song(0, 0);
        x.song(0, 0);
        x.person(0, 0, 0, 0);
        x.give(2, 2, 1);
        x.knows(2, 1, 0);
        isOrder(due, "60 is ahead of never", x, 2, 0, 1);
        x.knows(2, 2, 0);
        x.knows(2, 0, 0);
        x.mark(1, 2, 2);
        isOrder(due, "0 is ahead of all", x, 1, 0, 2);
        // The children's song is LOST in 61: never, as the hummer's, which is ahead by its number.
        LostBeforeSung y = new LostBeforeSung();
        y.song(0, 0);
        y.person(5, 0, 4, 0);
        y.person(5, 0, 3, 0);
        y.person(0, 0, 0, 0);
        y.give(2, 2, 1);
        y.knows(2, 0, 0);
        y.song(0, 0);
        y.seat(0, 1, 1);
        y.knows(0, 1, 2);
        y.knows(1, 1, 2);
        isOrder(due, "61 is never", y, 0, 1);
        y.pass();
        isOrder(due, "60 isn't", y, 1, 0);
    }

    private static void orderOfSeveral(Due due) {
        isOrder(due, "all alike", Made.plain(3, 6), 0, 1, 2, 3, 4, 5);
        isOrder(due, "three alike", sixSongs(5, 5, 5), 2, 4, 0, 3, 5, 1);
        isOrder(due, "two alike", sixSongs(5, 4, 5), 2, 4, 3, 0, 5, 1);
        LostBeforeSung x = Made.plain(1, 4);
        x.give(0, 2, 1);
        for (int s = 0; s < 4; s++) {
            x.knows(0, s, 0);
        }
        isOrder(due, "never, all of them", x, 0, 1, 2, 3);
        x.mark(3, 2, 1);
        x.mark(1, 2, 2);
        isOrder(due, "two not new", x, 1, 3, 0, 2);
    }

    private static void orderPlaces(Due due) {
        isOrder(due, "one", one(), 0);
        LostBeforeSung x = new LostBeforeSung();
        for (int songs = 0; songs <= 6; songs++) {
            due.be("the 0th of " + songs, x.order(0), songs == 0 ? Made.BAD : 0);
            due.be("the last of " + songs, x.order(songs - 1), songs - 1 < 0 ? Made.BAD : songs - 1);
            due.be("behind the last of " + songs, x.order(songs), Made.BAD);
            x.song(0, 0);
        }
    }

    private static void memoriesTerm(Due due) {
        // HOLD is MEMORY and 1 more: LOST in MEMORY and 2 YEARS.
        for (int years = 0; years <= 12; years++) {
            LostBeforeSung x = one();
            x.mark(0, 1, 4);
            x.tell(1, 999);
            x.mark(0, 2, 2);
            x.row(0, 0, 12);
            for (int i = 0; i < years; i++) {
                x.set(0, i, 1);
            }
            int bits = years == 12 ? 0 : years < 1 ? 0 : years - 1 <= 9 ? 1 << years - 1 : 0;
            due.be("for " + years + " YEARS", x.fits(0, 12, 0, 0), bits);
            due.be("at least " + years + " YEARS", x.fits(0, years, 0, 0), 1023 & 1023 << Math.max(0, years - 1));
        }
        due.be("all of them", rowed(one(), 0).fits(0, 0, 0, 0), 1023);
    }

    private static LostBeforeSung rowed(LostBeforeSung x, long... sets) {
        Made.row(x, 0, 3, sets);
        return x;
    }

    private static void kindsTerm(Due due) {
        // MEMORY 9, GRIEF 1, a 3, WORK 3: HOLD 8 by KIND 8, 5, 5, 3, 10, 16; it is SUNG, so never found again.
        int[] hold = {8, 5, 5, 3, 10, 16};
        for (int years = 0; years <= 12; years++) {
            LostBeforeSung x = Made.plain(1, 1);
            x.person(3, 3, 9, 1);
            x.mark(0, 2, 2);
            x.knows(1, 0, 0);
            x.row(0, 4, 12);
            int just = 0;
            int least = 0;
            for (int kind = 0; kind < 6; kind++) {
                just |= Math.min(12, hold[kind]) == years ? 1 << kind : 0;
                least |= hold[kind] >= years ? 1 << kind : 0;
            }
            for (int i = 0; i < years; i++) {
                x.set(0, i, 1);
            }
            due.be("for " + years + " YEARS", x.fits(0, 12, 1, 1), just);
            due.be("at least " + years + " YEARS", x.fits(0, years, 1, 1), least);
            due.be("nothing is changed", x.personOf(1, 0), 3);
        }
        // As a child he would pick up what is BESIDE him.
        LostBeforeSung y = Made.plain(2, 1);
        y.give(0, 2, 1);
        y.knows(0, 0, 0);
        y.seat(0, 1, 1);
        due.be("who picks up", rowed(y, 1).fits(0, 1, 1, 1), 32);
        due.be("who doesn't", rowed(y, 0).fits(0, 1, 1, 1), 31);
        due.be("by none told", rowed(y, 0).fits(0, 0, 1, 1), 63);
    }

    private static void fitsSets(Due due) {
        LostBeforeSung x = Made.plain(1, 6);
        x.give(0, 0, 2);
        x.knows(0, 0, 0);
        x.knows(0, 5, 1);
        x.mark(0, 2, 2);
        x.mark(5, 2, 2);
        for (int s = 1; s < 5; s++) {
            x.mark(s, 2, 2);
        }
        due.be("33, 1, 0", rowed(x, 33, 1, 0).fits(0, 3, 0, 0), 4);
        due.be("33, 1", rowed(x, 33, 1).fits(0, 2, 0, 0), 4);
        due.be("33", rowed(x, 33).fits(0, 1, 0, 0), 1020);
        due.be("1, 0: the first set is behind 1 YEAR", rowed(x, 1, 0).fits(0, 2, 0, 0), 2);
        due.be("more than there is", rowed(x, 33 + 64).fits(0, 1, 0, 0), 0);
        due.be("more than an int holds", rowed(x, 33 + (1L << 32)).fits(0, 1, 0, 0), 0);
        due.be("below 0", rowed(x, -1).fits(0, 1, 0, 0), 0);
        due.be("one that isn't so", rowed(x, 33, 1, 1).fits(0, 3, 0, 0), 0);
        due.be("the first that isn't so", rowed(x, 0, 1, 0).fits(0, 3, 0, 0), 0);
        Made.row(x, 0, 4, 0, 7, 0);
        due.be("booleans are 1 and 0", x.fits(0, 1, 0, 0), 1);
        Made.row(x, 0, 0, 33 + 256, 1 - 256, 0);
        due.be("bytes as they are kept", x.fits(0, 3, 0, 0), 4);
    }

    private static void fitsAllElse(Due due) {
        // LOST songs come to him of the greatest MEMORY, of several to the first.
        LostBeforeSung x = Made.plain(3, 1);
        x.give(0, 0, 4);
        x.give(2, 0, 6);
        x.mark(0, 1, 1);
        x.mark(0, 2, 1);
        due.be("the first finds it", rowed(x, 1).fits(0, 1, 0, 0), 1023 & ~63);
        due.be("the second finds it", rowed(x, 1).fits(0, 1, 1, 0), 1023 & ~63);
        due.be("the third finds it", rowed(x, 1).fits(0, 1, 2, 0), 1023 & ~31);
        due.be("the third doesn't", rowed(x, 0).fits(0, 1, 2, 0), 31);
        due.be("nothing is changed", x.personOf(2, 2), 6);
        due.be("not even the YEAR", x.status(3), 0);
        // His a and GRIEF, and whether he HUMS, and WORK stay.
        LostBeforeSung y = Made.plain(0, 1);
        y.person(2, 5, 9, 2);
        y.tell(0, 4);
        y.mark(0, 2, 2);
        y.knows(0, 0, 0);
        due.be("for 3 YEARS: 3 is MEMORY less 6; less 7 for a drinker", rowed(y, 1, 1, 1, 0).fits(0, 4, 0, 0), 1 << 9);
        due.be("for 3 YEARS", rowed(y, 1, 1, 1, 0).fits(0, 4, 0, 1), 4);
        due.be("for 2 YEARS", rowed(y, 1, 1, 0).fits(0, 3, 0, 1), 2);
        y.give(0, 2, 1);
        due.be("a hummer", rowed(y, 1, 1, 1, 1, 1, 1, 1, 1, 1, 1, 1, 1).fits(0, 12, 0, 0), 1023);
        due.be("a hummer", y.fits(0, 12, 0, 1), 63);
    }

    private static void griefsTerm(Due due) {
        // HOLD is 5 less GRIEF, 0 at least: he forgets it in YEAR 6 less GRIEF, 1 at least.
        for (int n = 0; n <= 60; n++) {
            due.be("in " + n, one().griefs(0, 0, n), n == 0 ? -1 : n >= 6 ? 0 : 6 - n);
        }
        LostBeforeSung x = one();
        x.mark(0, 0, 9);
        // HOLD is 12 less GRIEF: 3 at the least.
        due.be("by the greatest", x.griefs(0, 0, 4), 9);
        due.be("by none", x.griefs(0, 0, 3), -1);
        due.be("GRIEF as it was", x.personOf(0, 3), 1);
        x.give(0, 1, 9);
        due.be("whatever it is now", x.griefs(0, 0, 13), 0);
        due.be("a hummer", hummed().griefs(0, 0, 60), -1);
        due.be("in 60", lostIn60().griefs(0, 0, 60), 0);
        due.be("in 59: by 1, in 4", lostIn60().griefs(0, 0, 59), 1);
        due.be("in 4", lostIn60().griefs(0, 0, 4), 1);
        due.be("in 3: the other child teaches him", lostIn60().griefs(0, 0, 3), -1);
        due.be("in 61 by 0", lostIn61().griefs(0, 0, 60), 1);
    }

    /** HOLD 4 on song 0 (SOUND 3), 11 on song 1: KNOWN behind 1, 2, ..: 3 1 1 1 2 2 2 3. */
    private static LostBeforeSung logged(long... sets) {
        LostBeforeSung x = one();
        x.song(9, 0);
        x.knows(0, 1, 10);
        return rowed(x, sets);
    }

    private static void logTerm(Due due) {
        due.be("as it comes", logged(3, 1, 1, 1, 2, 2, 2, 3).judge(0, 8), -1);
        due.be("the first is behind 1 YEAR", logged(3, 3, 1, 1, 1, 2, 2, 2).judge(0, 8), 1);
        due.be("not behind 2", logged(1, 1, 1, 2, 2, 2, 3).judge(0, 7), 0);
        due.be("nobody is there", rowed(Made.plain(0, 6), 0, 0, 0).judge(0, 3), -1);
        LostBeforeSung x = Made.plain(2, 6);
        x.give(1, 2, 1);
        x.knows(1, 5, 0);
        x.knows(1, 0, 0);
        for (int s = 1; s < 5; s++) {
            x.mark(s, 2, 2);
        }
        x.row(0, 3, 40);
        for (int i = 0; i < 40; i++) {
            x.set(0, i, 33);
        }
        due.be("somebody has them", x.judge(0, 40), -1);
        x.set(0, 39, 32);
        due.be("the last of forty", x.judge(0, 40), 39);
        due.be("not looked at", x.judge(0, 39), -1);
        x.set(0, 0, 33 + (1L << 32));
        due.be("more than an int holds", x.judge(0, 40), 0);
    }

    private static void wrongTerm(Due due) {
        long[] so = {3, 1, 1, 1, 2, 2, 2, 3};
        for (int i = 0; i < so.length; i++) {
            long[] told = so.clone();
            told[i] ^= 1;
            due.be("wrong at " + i, logged(told).judge(0, 8), i);
            due.be("wrong behind what is told", logged(told).judge(0, i), -1);
            told[7] = 9;
            due.be("the first of both", logged(told).judge(0, 8), i);
        }
        due.be("below 0", logged(-1).judge(0, 1), 0);
        due.be("none told", logged().judge(0, 0), -1);
        due.be("none told of many", logged(9, 9).judge(0, 0), -1);
    }

    private static void behind(Due due) {
        for (int k = 0; k <= 12; k++) {
            int n = k;
            int has = n < 5 || n >= 8 ? 1 : 0;
            Made.asked(due, "who HAS it behind " + n, has, x -> x.behind(0, n, 0), OutlookSentences::one);
            Made.asked(due, "STATE behind " + n, n < 5 ? 0 : n < 8 ? 1 : 2, x -> x.behind(0, n, 1), OutlookSentences::one);
            Made.asked(due, "KNOWN behind " + n, has, x -> x.behind(0, n, 2), OutlookSentences::one);
        }
        Made.asked(due, "STATE behind 13", 2, x -> x.behind(0, 13, 1), OutlookSentences::one);
        Made.asked(due, "who HAS it behind 13", 0, x -> x.behind(0, 13, 0), OutlookSentences::one);
        Made.asked(due, "who HAS it behind 60", 1, x -> x.behind(0, 60, 0), OutlookSentences::hummed);
    }

    private static void behindBad(Due due) {
        for (int v : Made.out(0, 1)) {
            Made.refused(due, "behind(" + v + ", 0, 0)", Made.BAD, x -> x.behind(v, 0, 0));
        }
        for (int v : Made.out(0, 60)) {
            Made.refused(due, "behind(0, " + v + ", 0)", Made.BAD, x -> x.behind(0, v, 0));
        }
        for (int v : Made.out(0, 2)) {
            Made.refused(due, "behind(0, 0, " + v + ")", Made.BAD, x -> x.behind(0, 0, v));
        }
        Made.refused(due, "no SONGS", Made.BAD, x -> x.behind(0, 0, 2), () -> Made.plain(8, 0));
    }

    private static void lostIn(Due due) {
        Made.asked(due, "LOST now", 0, x -> x.lostIn(0), () -> inState(1));
        Made.asked(due, "in 5", 5, x -> x.lostIn(0), OutlookSentences::one);
        Made.asked(due, "in 60", 60, x -> x.lostIn(0), OutlookSentences::lostIn60);
        LostBeforeSung x = new LostBeforeSung();
        x.person(5, 0, 9, 0);
        for (int s = 0; s < 6; s++) {
            x.song(9 - s, 0);
            x.knows(0, s, s);
        }
        for (int s = 0; s < 6; s++) {
            due.be("HOLD " + (36 - 2 * s), x.lostIn(s), 37 - 3 * s);
        }
    }

    private static void lostInBad(Due due) {
        for (int v : Made.out(0, 1)) {
            Made.refused(due, "lostIn(" + v + ")", Made.BAD, x -> x.lostIn(v));
        }
        Made.refused(due, "no SONGS", Made.BAD, x -> x.lostIn(0), () -> Made.plain(8, 0));
        Made.refused(due, "no seventh", Made.BAD, x -> x.lostIn(6), Made::fullOfSongs);
    }

    private static void lostInNone(Due due) {
        Made.asked(due, "never", -1, x -> x.lostIn(0), OutlookSentences::hummed);
        Made.asked(due, "in 61", -1, x -> x.lostIn(0), OutlookSentences::lostIn61);
    }

    private static void sungIn(Due due) {
        Made.asked(due, "SUNG now", 0, x -> x.sungIn(0), () -> inState(2));
        Made.asked(due, "in 8", 8, x -> x.sungIn(0), OutlookSentences::one);
        Made.asked(due, "in 60", 60, x -> x.sungIn(0), () -> twoChildren(8, 1, 0));
        LostBeforeSung x = Made.plain(1, 6);
        int[] in = {5, 6, 2, 3, 4, 1};
        for (int s = 0; s < 6; s++) {
            x.mark(s, 1, s % 5);
        }
        x.mark(5, 1, 1);
        x.mark(5, 2, 1);
        for (int s = 0; s < 6; s++) {
            due.be("SONG " + s, x.sungIn(s), in[s]);
        }
    }

    private static void sungInBad(Due due) {
        for (int v : Made.out(0, 1)) {
            Made.refused(due, "sungIn(" + v + ")", Made.BAD, x -> x.sungIn(v));
        }
        Made.refused(due, "no SONGS", Made.BAD, x -> x.sungIn(0), () -> Made.plain(8, 0));
    }

    private static void sungInNone(Due due) {
        Made.asked(due, "never LOST", -1, x -> x.sungIn(0), OutlookSentences::hummed);
        Made.asked(due, "in 61", -1, x -> x.sungIn(0), () -> twoChildren(7, 0, 1));
        Made.asked(due, "nobody is there", -1, x -> x.sungIn(0), OutlookSentences::songAlone);
    }

    private static void last(Due due) {
        Made.asked(due, "one", 1, x -> x.last(0), OutlookSentences::one);
        Made.asked(due, "nobody", 0, x -> x.last(0), OutlookSentences::songAlone);
        Made.asked(due, "two, in 60", 3, x -> x.last(0), OutlookSentences::lostIn60);
    }

    private static void lastBad(Due due) {
        for (int v : Made.out(0, 1)) {
            Made.refused(due, "last(" + v + ")", Made.BAD, x -> x.last(v));
        }
        Made.refused(due, "no SONGS", Made.BAD, x -> x.last(0), () -> Made.plain(8, 0));
    }

    private static void lastNotRefused(Due due) {
        Made.asked(due, "never", -1, x -> x.last(0), OutlookSentences::hummed);
        Made.asked(due, "in 61", -1, x -> x.last(0), OutlookSentences::lostIn61);
        Made.asked(due, "LOST now", -1, x -> x.last(0), () -> inState(1));
        Made.asked(due, "SUNG now", -1, x -> x.last(0), () -> inState(2));
    }

    private static void keep(Due due) {
        Made.asked(due, "in 60", 1, x -> x.keep(0), () -> threeChildren(5, 4, 3));
        Made.asked(due, "the only one", 0, x -> x.keep(0), OutlookSentences::one);
        // Eight in a line: the hummer's child, and so on; the teller at the other end is who it is kept from.
        LostBeforeSung x = new LostBeforeSung();
        for (int p = 0; p < 8; p++) {
            x.person(p == 7 ? 0 : 5, 0, p == 7 ? 1 : 3, 0);
        }
        for (int s = 0; s < 6; s++) {
            x.song(0, 0);
        }
        for (int p = 1; p < 8; p++) {
            x.seat(p, p - 1, 1);
        }
        x.knows(7, 5, 0);
        due.be("the last", x.keep(5), 6);
        x.seat(7, 6, 0);
        x.seat(7, 0, 1);
        due.be("from 0 or 7, who begin it", x.keep(5), 0);
        due.be("another SONG", x.keep(0), 0);
        due.be("nothing is changed", x.table(0), 255);
    }

    private static void keepBad(Due due) {
        for (int v : Made.out(0, 1)) {
            Made.refused(due, "keep(" + v + ")", Made.BAD, x -> x.keep(v));
        }
        Made.refused(due, "no SONGS", Made.BAD, x -> x.keep(0), () -> Made.plain(8, 0));
    }

    private static void keepNotRefused(Due due) {
        Made.asked(due, "by none", -1, x -> x.keep(0), OutlookSentences::hummed);
        Made.asked(due, "in 61", -1, x -> x.keep(0), () -> threeChildren(4, 3, 2));
        Made.asked(due, "nobody is there", -1, x -> x.keep(0), OutlookSentences::songAlone);
    }

    private static void workFor(Due due) {
        Made.asked(due, "in 10", 9, x -> x.workFor(0, 10), OutlookSentences::worker);
        Made.asked(due, "in 60", 0, x -> x.workFor(0, 60), OutlookSentences::worker);
        Made.asked(due, "LOST now, in 0", 0, x -> x.workFor(0, 0), () -> inState(1));
        Made.asked(due, "SUNG now, in 0", 0, x -> x.workFor(0, 0), () -> inState(2));
        // A maker has 5 more than a worker: 0 at least ahead of that.
        LostBeforeSung x = Made.plain(0, 6);
        x.person(4, 0, 3, 0);
        x.knows(0, 5, 0);
        due.be("in 9", x.workFor(5, 9), 0);
        due.be("in 8", x.workFor(5, 8), 1);
        due.be("in 6", x.workFor(5, 6), 3);
        due.be("in 5", x.workFor(5, 5), -1);
    }

    private static void workForBad(Due due) {
        for (int v : Made.out(0, 1)) {
            Made.refused(due, "workFor(" + v + ", 0)", Made.BAD, x -> x.workFor(v, 0));
        }
        for (int v : Made.out(0, 60)) {
            Made.refused(due, "workFor(0, " + v + ")", Made.BAD, x -> x.workFor(0, v));
        }
        Made.refused(due, "no SONGS", Made.BAD, x -> x.workFor(0, 0), () -> Made.plain(8, 0));
    }

    private static void workForNone(Due due) {
        Made.asked(due, "in 9", -1, x -> x.workFor(0, 9), OutlookSentences::worker);
        Made.asked(due, "in 0", -1, x -> x.workFor(0, 0), OutlookSentences::songAlone);
        Made.asked(due, "in 60", -1, x -> x.workFor(0, 60), OutlookSentences::lostIn61);
    }

    private static void teach(Due due) {
        Made.asked(due, "none", 0, x -> x.teach(0, 0), OutlookSentences::one);
        Made.asked(due, "all of eight", 255, x -> x.teach(0, 8), () -> Made.plain(8, 1));
        LostBeforeSung x = Made.plain(8, 6);
        x.knows(0, 5, 0);
        x.give(1, 0, 9);
        due.be("seven", x.teach(5, 7), 254);
        due.be("six", x.teach(5, 6), 252);
        due.be("of another SONG eight", x.teach(4, 8), 255);
    }

    private static void teachBad(Due due) {
        for (int v : Made.out(0, 1)) {
            Made.refused(due, "teach(" + v + ", 0)", Made.BAD, x -> x.teach(v, 0));
        }
        for (int v : Made.out(0, 8)) {
            Made.refused(due, "teach(0, " + v + ")", Made.BAD, x -> x.teach(0, v));
        }
        Made.refused(due, "no SONGS", Made.BAD, x -> x.teach(0, 0), () -> Made.plain(8, 0));
    }

    private static void teachNotRefused(Due due) {
        Made.asked(due, "not so many", -1, x -> x.teach(0, 1), OutlookSentences::one);
        Made.asked(due, "not so many", -1, x -> x.teach(0, 8), OutlookSentences::songAlone);
        Made.asked(due, "never", -1, x -> x.teach(0, 0), OutlookSentences::hummed);
        Made.asked(due, "in 61", -1, x -> x.teach(0, 0), OutlookSentences::lostIn61);
    }

    private static void hummer(Due due) {
        Made.asked(due, "the one", 0, x -> x.hummer(0), OutlookSentences::one);
        Made.asked(due, "the first of both", 0, x -> x.hummer(0), OutlookSentences::lostIn60);
        Made.asked(due, "the first who HAS it", 2, x -> x.hummer(1));
    }

    private static void hummerBad(Due due) {
        for (int v : Made.out(0, 1)) {
            Made.refused(due, "hummer(" + v + ")", Made.BAD, x -> x.hummer(v));
        }
        Made.refused(due, "no SONGS", Made.BAD, x -> x.hummer(0), () -> Made.plain(8, 0));
    }

    private static void hummerNotRefused(Due due) {
        Made.asked(due, "nobody HAS it", -1, x -> x.hummer(0), () -> Made.plain(8, 1));
        Made.asked(due, "nobody is there", -1, x -> x.hummer(0), OutlookSentences::songAlone);
    }

    private static void next(Due due) {
        Made.asked(due, "the last", 5, x -> x.next(), () -> sixSongs(3, 2, 1));
        Made.asked(due, "in 60", 0, x -> x.next(), OutlookSentences::lostIn60);
        LostBeforeSung x = sixSongs(3, 2, 1);
        x.pass();
        due.be("the next", x.next(), 3);
        x.pass();
        due.be("the next", x.next(), 0);
        x.pass();
        due.be("what the hummer HAS never", x.next(), -1);
    }

    private static void nextNone(Due due) {
        Made.asked(due, "no SONGS", -1, x -> x.next(), LostBeforeSung::new);
        Made.asked(due, "in 61", -1, x -> x.next(), OutlookSentences::lostIn61);
        Made.asked(due, "never", -1, x -> x.next(), OutlookSentences::hummed);
        Made.asked(due, "LOST now", -1, x -> x.next(), () -> inState(1));
    }

    private static void order(Due due) {
        int[] order = {2, 4, 5, 3, 0, 1};
        for (int k = 0; k < 6; k++) {
            int i = k;
            Made.asked(due, "order(" + i + ")", order[i], x -> x.order(i), () -> sixSongs(3, 2, 1));
        }
    }

    private static void orderBad(Due due) {
        Made.asked(due, "order(1)", 1, x -> x.order(1));
        for (int v : Made.out(0, 1)) {
            Made.refused(due, "order(" + v + ")", Made.BAD, x -> x.order(v));
        }
        Made.refused(due, "no SONGS", Made.BAD, x -> x.order(0), LostBeforeSung::new);
        Made.refused(due, "the 6th of 6", Made.BAD, x -> x.order(6), Made::fullOfSongs);
    }

    private static void fits(Due due) {
        Made.asked(due, "none told", 1023, x -> x.fits(0, 0, 0, 0));
        Made.asked(due, "none told", 63, x -> x.fits(0, 0, 0, 1));
        LostBeforeSung x = hummed();
        x.row(7, 2, 40);
        for (int i = 0; i < 12; i++) {
            x.set(7, i, 1);
        }
        due.be("twelve of forty", x.fits(7, 12, 0, 0), 1023);
        due.be("twelve of forty", x.fits(7, 12, 0, 1), 63);
        x.set(7, 11, 0);
        due.be("the twelfth isn't so", x.fits(7, 12, 0, 0), 0);
        due.be("the first eleven", x.fits(7, 11, 0, 0), 1023);
        due.be("the twelfth isn't so", x.fits(7, 12, 0, 1), 0);
        due.be("the first eleven", x.fits(7, 11, 0, 1), 63);
        x.person(0, 0, 0, 0);
        x.set(7, 0, 0);
        due.be("of another one", x.fits(7, 1, 1, 0), 1023);
        due.be("refusals", Made.refusals(x), 0);
    }

    private static void fitsBad(Due due) {
        for (int v : Made.out(0, 7)) {
            Made.refused(due, "fits(" + v + ", 0, 0, 0)", Made.BAD, x -> x.fits(v, 0, 0, 0));
        }
        for (int s = 0; s < 3; s++) {
            // A ROW; OTHER and NOTHING come behind BAD.
            int held = s;
            for (int v : Made.out(0, 12)) {
                Made.refused(due, "fits(" + s + ", " + v + ", 0, 0)", Made.BAD, x -> x.fits(held, v, 0, 0));
            }
            for (int v : Made.out(0, 2)) {
                Made.refused(due, "fits(" + s + ", 0, " + v + ", 0)", Made.BAD, x -> x.fits(held, 0, v, 0));
            }
            for (int v : Made.out(0, 1)) {
                Made.refused(due, "fits(" + s + ", 0, 0, " + v + ")", Made.BAD, x -> x.fits(held, 0, 0, v));
            }
        }
        Made.refused(due, "nobody is there", Made.BAD, x -> x.fits(0, 0, 0, 0), () -> {
            LostBeforeSung x = new LostBeforeSung();
            x.row(0, 0, 12);
            return x;
        });
    }

    private static void fitsOther(Due due) {
        Made.refused(due, "fits(1, 0, 0, 0)", Made.OTHER, x -> x.fits(1, 0, 0, 0));
        Made.refused(due, "fits(1, 12, 2, 1)", Made.OTHER, x -> x.fits(1, 12, 2, 1));
    }

    private static void fitsNothing(Due due) {
        Made.refused(due, "fits(2, 0, 0, 0)", Made.NOTHING, x -> x.fits(2, 0, 0, 0));
        Made.refused(due, "fits(7, 12, 2, 1)", Made.NOTHING, x -> x.fits(7, 12, 2, 1));
    }

    private static void fitsFewer(Due due) {
        Made.asked(due, "four of four", 0, x -> x.fits(0, 4, 0, 0));
        Made.refused(due, "five of four", Made.BAD, x -> x.fits(0, 5, 0, 0));
        Made.refused(due, "twelve of four", Made.BAD, x -> x.fits(0, 12, 0, 1));
        Made.refused(due, "three of two", Made.BAD, x -> x.fits(3, 3, 0, 1));
        LostBeforeSung x = one();
        x.row(0, 0, 0);
        due.be("none of none", x.fits(0, 0, 0, 0), 1023);
        due.be("one of none", x.fits(0, 1, 0, 0), Made.BAD);
        x.row(0, 0, 11);
        due.be("twelve of eleven", x.fits(0, 12, 0, 0), Made.BAD);
    }

    private static void griefs(Due due) {
        Made.asked(due, "in 6", 0, x -> x.griefs(0, 0, 6), OutlookSentences::one);
        Made.asked(due, "in 5", 1, x -> x.griefs(0, 0, 5), OutlookSentences::one);
        Made.asked(due, "in 60", 0, x -> x.griefs(0, 0, 60), OutlookSentences::lostIn60);
        LostBeforeSung x = Made.plain(8, 6);
        x.give(7, 0, 6);
        x.knows(7, 5, 2);
        due.be("HOLD 6 less GRIEF, in 5", x.griefs(7, 5, 5), 0);
        due.be("HOLD 6 less GRIEF, in 2", x.griefs(7, 5, 2), 3);
        due.be("HOLD 6 less GRIEF, in 1", x.griefs(7, 5, 1), 4);
    }

    private static void griefsBad(Due due) {
        for (int v : Made.out(0, 2)) {
            Made.refused(due, "griefs(" + v + ", 0, 1)", Made.BAD, x -> x.griefs(v, 0, 1));
        }
        for (int v : Made.out(0, 1)) {
            Made.refused(due, "griefs(0, " + v + ", 1)", Made.BAD, x -> x.griefs(0, v, 1));
        }
        for (int v : Made.out(0, 60)) {
            Made.refused(due, "griefs(0, 0, " + v + ")", Made.BAD, x -> x.griefs(0, 0, v));
            Made.refused(due, "ahead of STUCK", Made.BAD, x -> x.griefs(0, 1, v));
        }
    }

    private static void griefsStuck(Due due) {
        Made.refused(due, "griefs(0, 1, 1)", Made.STUCK, x -> x.griefs(0, 1, 1));
        Made.refused(due, "griefs(2, 0, 0)", Made.STUCK, x -> x.griefs(2, 0, 0));
        Made.refused(due, "griefs(2, 0, 60)", Made.STUCK, x -> x.griefs(2, 0, 60));
        LostBeforeSung x = one();
        x.knows(0, 0, -1);
        due.be("not any more", x.griefs(0, 0, 60), Made.STUCK);
        x.knows(0, 0, 0);
        due.be("anew", x.griefs(0, 0, 60), 0);
    }

    private static void griefsNone(Due due) {
        Made.asked(due, "in 0", -1, x -> x.griefs(0, 0, 0), OutlookSentences::one);
        Made.asked(due, "a hummer", -1, x -> x.griefs(0, 0, 60), OutlookSentences::hummed);
        Made.asked(due, "in 3", -1, x -> x.griefs(0, 0, 3), OutlookSentences::lostIn60);
    }

    private static void forgets(Due due) {
        Made.asked(due, "HOLD 4", 5, x -> x.forgets(0, 0), OutlookSentences::one);
        Made.asked(due, "in 60", 60, x -> x.forgets(0, 0), OutlookSentences::lostIn60);
        Made.asked(due, "in 60", 60, x -> x.forgets(1, 0), OutlookSentences::lostIn60);
        LostBeforeSung x = Made.plain(8, 6);
        x.give(7, 0, 9);
        x.knows(7, 5, 3);
        x.knows(0, 5, 0);
        due.be("HOLD 9, years 3", x.forgets(7, 5), 7);
        due.be("HOLD 0", x.forgets(0, 5), 1);
        // First: he finds it again later on.
        LostBeforeSung y = one();
        due.be("found again", y.behind(0, 8, 0), 1);
        due.be("first", y.forgets(0, 0), 5);
        y.mark(0, 2, 1);
        due.be("found while he HAS it: 0 years in YEAR 3", y.forgets(0, 0), 8);
    }

    private static void forgetsNow(Due due) {
        Made.asked(due, "he doesn't", 0, x -> x.forgets(2, 0));
        Made.asked(due, "he doesn't", 0, x -> x.forgets(0, 1));
        Made.asked(due, "he will", 0, x -> x.forgets(0, 0), () -> {
            LostBeforeSung x = Made.plain(1, 1);
            x.mark(0, 1, 1);
            x.mark(0, 2, 1);
            return x;
        });
    }

    private static void forgetsBad(Due due) {
        for (int v : Made.out(0, 2)) {
            Made.refused(due, "forgets(" + v + ", 0)", Made.BAD, x -> x.forgets(v, 0));
        }
        for (int v : Made.out(0, 1)) {
            Made.refused(due, "forgets(0, " + v + ")", Made.BAD, x -> x.forgets(0, v));
        }
        Made.refused(due, "nobody is there", Made.BAD, x -> x.forgets(0, 0), () -> Made.plain(0, 6));
        Made.refused(due, "no SONGS", Made.BAD, x -> x.forgets(0, 0), () -> Made.plain(8, 0));
    }

    private static void forgetsNever(Due due) {
        Made.asked(due, "a hummer", -1, x -> x.forgets(0, 0), OutlookSentences::hummed);
        Made.asked(due, "in 61", -1, x -> x.forgets(0, 0), OutlookSentences::lostIn61);
        Made.asked(due, "in 61", -1, x -> x.forgets(1, 0), OutlookSentences::lostIn61);
    }

    private static void judge(Due due) {
        Made.asked(due, "as it comes", -1, x -> x.judge(0, 4), () -> logged(3, 1, 1, 1));
        Made.asked(due, "wrong at 0", 0, x -> x.judge(0, 4), () -> logged(1, 1, 1, 1));
        Made.asked(due, "wrong at 3", 3, x -> x.judge(0, 4), () -> logged(3, 1, 1, 0));
        Made.asked(due, "the first three", -1, x -> x.judge(0, 3), () -> logged(3, 1, 1, 0));
        Made.asked(due, "none told", -1, x -> x.judge(0, 0));
        LostBeforeSung x = hummed();
        x.row(7, 4, 40);
        for (int i = 0; i < 40; i++) {
            x.set(7, i, 1);
        }
        due.be("forty", x.judge(7, 40), -1);
        x.set(7, 39, 0);
        due.be("the fortieth", x.judge(7, 40), 39);
        due.be("thirty-nine", x.judge(7, 39), -1);
    }

    private static void judgeBad(Due due) {
        for (int v : Made.out(0, 7)) {
            Made.refused(due, "judge(" + v + ", 0)", Made.BAD, x -> x.judge(v, 0));
        }
        for (int v : Made.out(0, 40)) {
            Made.refused(due, "judge(0, " + v + ")", Made.BAD, x -> x.judge(0, v));
            Made.refused(due, "ahead of OTHER", Made.BAD, x -> x.judge(1, v));
            Made.refused(due, "ahead of NOTHING", Made.BAD, x -> x.judge(2, v));
        }
    }

    private static void judgeOther(Due due) {
        Made.refused(due, "judge(1, 0)", Made.OTHER, x -> x.judge(1, 0));
        Made.refused(due, "judge(1, 40)", Made.OTHER, x -> x.judge(1, 40));
    }

    private static void judgeNothing(Due due) {
        Made.refused(due, "judge(2, 0)", Made.NOTHING, x -> x.judge(2, 0));
        Made.refused(due, "judge(7, 40)", Made.NOTHING, x -> x.judge(7, 40));
    }

    private static void judgeFewer(Due due) {
        Made.asked(due, "two of two", 0, x -> x.judge(3, 2));
        Made.refused(due, "three of two", Made.BAD, x -> x.judge(3, 3));
        Made.refused(due, "five of four", Made.BAD, x -> x.judge(0, 5));
        Made.refused(due, "forty of four", Made.BAD, x -> x.judge(0, 40));
        LostBeforeSung x = one();
        x.row(0, 0, 39);
        due.be("forty of thirty-nine", x.judge(0, 40), Made.BAD);
        x.row(0, 0, 0);
        due.be("none of none", x.judge(0, 0), -1);
        due.be("one of none", x.judge(0, 1), Made.BAD);
    }
}
