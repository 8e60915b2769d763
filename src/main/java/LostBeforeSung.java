/**
 * An archipelago's people with the songs they hold, lose and find again: what is so now, what comes of it
 * year by year, and years in truth and by draws.
 *
 * <p>No call makes an object: every array is made with the object itself, because all calls of one run share
 * one small room that is never tidied.
 */
public final class LostBeforeSung {
    public static final int NONE = -1;

    private static final int BAD = -2;
    private static final int OTHER = -3;
    private static final int NOTHING = -4;
    private static final int STUCK = -5;
    private static final int FULL = -6;
    private static final int REFUSAL_SORTS = 5;

    private static final int PEOPLE_ROOM = 8;
    private static final int SONG_ROOM = 6;
    private static final int NOTES = 8;
    private static final int TAPE_ROOM = 250;
    private static final int SHELF_ROOM = 8;
    private static final int ROW_ROOM = 40;

    /** How many values each may have, from 0 on. */
    private static final int LEVELS = 10;
    private static final int PITCHES = 5;
    private static final int BYTES = 256;
    private static final int YEAR_LIMIT = 1000;
    private static final int HELD_LIMIT = 100;

    private static final int ISLANDER = 0;
    private static final int DRINKER = 1;
    private static final int WORKER = 2;
    private static final int SAILOR = 3;
    private static final int MAKER = 4;
    private static final int CHILD = 5;
    private static final int KINDS = 6;

    private static final int NEW = 0;
    private static final int LOST = 1;
    private static final int SUNG = 2;
    private static final int STATES = 3;

    private static final int BYTE_ROW = 0;
    private static final int SHORT_ROW = 1;
    private static final int INT_ROW = 2;
    private static final int LONG_ROW = 3;
    private static final int BOOLEAN_ROW = 4;
    private static final int ROW_SORTS = 5;
    /** What a SHELF answers to hold for the person 0. */
    private static final int FIRST_SHOWN = 10;

    /** The farthest YEAR that is looked at, and what stands for one behind it. */
    private static final int FAR = 60;
    private static final int NEVER = FAR + 1;
    private static final int FITS_LIMIT = 12;
    private static final int FAULT_BASE = -20;

    private final Isle now = new Isle();
    private final Isle kept = new Isle();
    private final Isle draft = new Isle();
    private final Outlook outlook = new Outlook();
    private final Tunes tunes = new Tunes();
    private final Reader reader = new Reader();
    private final Shelf[] shelves = new Shelf[SHELF_ROOM];
    private final int[] refusals = new int[REFUSAL_SORTS];
    private boolean hasKept;

    public LostBeforeSung() {
        for (int s = 0; s < SHELF_ROOM; s++) {
            shelves[s] = new Shelf();
        }
    }

    // ---- SHELVES ----

    public int row(int s, int sort, int n) {
        if (outside(s, SHELF_ROOM) || outside(sort, ROW_SORTS) || outside(n, ROW_ROOM + 1)) {
            return refuse(BAD);
        }
        shelves[s].becomeRow(sort, n);
        return 1;
    }

    public int set(int s, int i, long v) {
        if (outside(s, SHELF_ROOM)) {
            return refuse(BAD);
        }
        Shelf shelf = shelves[s];
        int refusal = shelf.refusalAsRow();
        if (refusal != 0) {
            return refuse(refusal);
        }
        if (outside(i, shelf.size)) {
            return refuse(BAD);
        }
        shelf.put(i, v);
        return 1;
    }

    public int copy(int p, int q, int i, int j, int n) {
        if (outside(p, SHELF_ROOM) || outside(q, SHELF_ROOM)) {
            return refuse(BAD);
        }
        Shelf from = shelves[p];
        Shelf to = shelves[q];
        if (from.hasPerson() || to.hasPerson()) {
            return refuse(OTHER);
        }
        boolean oneIsEmpty = from.content == NONE || to.content == NONE;
        if (!oneIsEmpty && from.content != to.content) {
            return refuse(OTHER);
        }
        if (oneIsEmpty) {
            return refuse(NOTHING);
        }
        if (from.lacks(i, n) || to.lacks(j, n)) {
            return refuse(BAD);
        }
        System.arraycopy(from.elements, i, to.elements, j, n);
        return n;
    }

    public long element(int s, int i) {
        if (outside(s, SHELF_ROOM)) {
            return 0;
        }
        Shelf shelf = shelves[s];
        return shelf.refusalAsRow() != 0 || outside(i, shelf.size) ? 0 : shelf.elements[i];
    }

    public int holds(int s) {
        return outside(s, SHELF_ROOM) ? NONE : shelves[s].content;
    }

    public int show(int s, int person) {
        if (outside(s, SHELF_ROOM) || (person != NONE && noPerson(person))) {
            return refuse(BAD);
        }
        shelves[s].content = person == NONE ? NONE : FIRST_SHOWN + person;
        return 1;
    }

    public int says(int s, int kind) {
        if (outside(s, SHELF_ROOM) || outside(kind, KINDS)) {
            return refuse(BAD);
        }
        Shelf shelf = shelves[s];
        if (shelf.content == NONE) {
            return refuse(NOTHING);
        }
        int person = shelf.content - FIRST_SHOWN;
        if (noPerson(person) || !now.isOfKind(person, kind)) {
            return refuse(OTHER);
        }
        return kind == ISLANDER ? now.memory[person] : now.holdOn(person, 0);
    }

    // ---- THE ISLE, made and changed by hand ----

    public int person(int kind, int a, int memory, int grief) {
        if (outside(kind, KINDS) || outside(a, LEVELS) || outside(memory, LEVELS) || outside(grief, LEVELS)) {
            return refuse(BAD);
        }
        if (now.people >= PEOPLE_ROOM) {
            return refuse(FULL);
        }
        return now.addPerson(kind, a, memory, grief);
    }

    public int song(int hard, int sound) {
        if (outside(hard, LEVELS) || outside(sound, PITCHES)) {
            return refuse(BAD);
        }
        if (now.songs >= SONG_ROOM) {
            return refuse(FULL);
        }
        return now.addSong(hard, sound);
    }

    public int give(int person, int what, int v) {
        if (noPerson(person) || outside(what, 3) || outside(v, what == 2 ? 2 : LEVELS)) {
            return refuse(BAD);
        }
        int was;
        if (what == 0) {
            was = now.memory[person];
            now.memory[person] = v;
        } else if (what == 1) {
            was = now.grief[person];
            now.grief[person] = v;
        } else {
            was = now.hums >> person & 1;
            now.setHums(person, v == 1);
        }
        return was;
    }

    public int mark(int song, int what, int v) {
        if (noSong(song) || outside(what, 3) || outside(v, markLimit(what))) {
            return refuse(BAD);
        }
        int[] marks = what == 0 ? now.hard : what == 1 ? now.sound : now.state;
        int was = marks[song];
        marks[song] = v;
        return was;
    }

    public int note(int song, int i, int v) {
        if (noSong(song) || outside(i, NOTES) || outside(v, PITCHES)) {
            return refuse(BAD);
        }
        int place = song * NOTES + i;
        int was = now.tune[place];
        now.tune[place] = v;
        return was;
    }

    public int knows(int person, int song, int v) {
        if (noPerson(person) || noSong(song) || (v != NONE && outside(v, HELD_LIMIT))) {
            return refuse(BAD);
        }
        int was = now.heldFor(person, song);
        now.setHeld(person, song, v);
        return was;
    }

    public int seat(int person, int other, int is) {
        if (noPerson(person) || noPerson(other) || outside(is, 2) || person == other) {
            return refuse(BAD);
        }
        int was = now.beside[person] >> other & 1;
        now.setBeside(person, other, is == 1);
        return was;
    }

    public int tell(int what, int v) {
        if (outside(what, 2) || outside(v, what == 0 ? LEVELS : YEAR_LIMIT)) {
            return refuse(BAD);
        }
        int was;
        if (what == 0) {
            was = now.work;
            now.work = v;
        } else {
            was = now.year;
            now.year = v;
        }
        return was;
    }

    // ---- THE TAPE ----

    public int feed(int letter) {
        if (outside(letter, BYTES)) {
            return refuse(BAD);
        }
        if (reader.size >= TAPE_ROOM) {
            return refuse(FULL);
        }
        return reader.append(letter);
    }

    public int wipe() {
        int was = reader.size;
        reader.size = 0;
        return was;
    }

    public int isle() {
        draft.become(now);
        int statements = reader.read(draft);
        reader.size = 0;
        if (statements == NONE) {
            refuse(BAD);
            return FAULT_BASE - reader.start;
        }
        now.become(draft);
        return statements;
    }

    // ---- what is so now ----

    public int personOf(int person, int what) {
        if (noPerson(person)) {
            return refuse(BAD);
        }
        switch (what) {
            case 0:
                return now.kind[person];
            case 1:
                return now.a[person];
            case 2:
                return now.memory[person];
            case 3:
                return now.grief[person];
            case 4:
                return now.hums >> person & 1;
            case 5:
                return now.beside[person];
            case 6:
                return now.repertoire(person);
            default:
                return refuse(BAD);
        }
    }

    public int songOf(int song, int what) {
        if (noSong(song)) {
            return refuse(BAD);
        }
        switch (what) {
            case 0:
                return now.hard[song];
            case 1:
                return now.sound[song];
            case 2:
                return now.state[song];
            case 3:
                return now.havers(song);
            case 4:
                return tunes.asDigits(now, song);
            default:
                return refuse(BAD);
        }
    }

    public int years(int person, int song) {
        if (noPerson(person) || noSong(song)) {
            return refuse(BAD);
        }
        int held = now.heldFor(person, song);
        return held == NONE ? HELD_LIMIT : held;
    }

    public int hold(int person, int song) {
        if (noPerson(person) || noSong(song)) {
            return refuse(BAD);
        }
        return now.holdOn(person, now.hard[song]);
    }

    public int finder() {
        return now.bestMemory();
    }

    public int songs(int what) {
        if (outside(what, STATES + 1)) {
            return refuse(BAD);
        }
        return what == 0 ? now.knownSongs() : now.songsOfState(what - 1);
    }

    public int people(int what) {
        if (outside(what, 2)) {
            return refuse(BAD);
        }
        return what == 0 ? now.peopleWithNone() : now.peopleWithAll(now.knownSongs());
    }

    public int both(int person, int other) {
        if (noPerson(person) || noPerson(other) || person == other) {
            return refuse(BAD);
        }
        return now.repertoire(person) & now.repertoire(other);
    }

    public int most(int what) {
        if (outside(what, 2)) {
            return refuse(BAD);
        }
        return what == 0 ? now.mostHeld() : now.leastHeld();
    }

    public int table(int person) {
        return noPerson(person) ? refuse(BAD) : now.tableOf(person);
    }

    public int weakest(int song) {
        return noSong(song) ? refuse(BAD) : now.weakestOn(song);
    }

    public int ofKind(int kind) {
        return outside(kind, KINDS) ? refuse(BAD) : now.countKind(kind);
    }

    // ---- what comes of it ----

    public int behind(int song, int n, int what) {
        if (noSong(song) || outside(n, FAR + 1) || outside(what, 3)) {
            return refuse(BAD);
        }
        Isle then = outlook.after(now, n);
        return what == 0 ? then.havers(song) : what == 1 ? then.state[song] : then.knownSongs();
    }

    public int lostIn(int song) {
        return noSong(song) ? refuse(BAD) : noneIfNever(outlook.lossIn(now, song));
    }

    public int sungIn(int song) {
        return noSong(song) ? refuse(BAD) : noneIfNever(outlook.findIn(now, song));
    }

    public int last(int song) {
        return noSong(song) ? refuse(BAD) : outlook.lastHavers(now, song);
    }

    public int keep(int song) {
        return noSong(song) ? refuse(BAD) : outlook.neededAtTable(now, song);
    }

    public int workFor(int song, int n) {
        if (noSong(song) || outside(n, FAR + 1)) {
            return refuse(BAD);
        }
        return outlook.leastWork(now, song, n);
    }

    public int teach(int song, int k) {
        if (noSong(song) || outside(k, PEOPLE_ROOM + 1)) {
            return refuse(BAD);
        }
        return outlook.worstPupils(now, song, k);
    }

    public int hummer(int song) {
        return noSong(song) ? refuse(BAD) : outlook.bestHummer(now, song);
    }

    public int next() {
        return outlook.nextLost(now);
    }

    public int order(int i) {
        return noSong(i) ? refuse(BAD) : outlook.inOrder(now, i);
    }

    public int fits(int s, int n, int person, int what) {
        if (outside(s, SHELF_ROOM) || outside(n, FITS_LIMIT + 1) || noPerson(person) || outside(what, 2)) {
            return refuse(BAD);
        }
        Shelf told = shelves[s];
        int refusal = told.refusalAsTold(n);
        if (refusal != 0) {
            return refuse(refusal);
        }
        return what == 0 ? outlook.memoriesBy(now, told, n, person) : outlook.kindsBy(now, told, n, person);
    }

    public int griefs(int person, int song, int n) {
        if (noPerson(person) || noSong(song) || outside(n, FAR + 1)) {
            return refuse(BAD);
        }
        if (now.heldFor(person, song) == NONE) {
            return refuse(STUCK);
        }
        return outlook.leastGrief(now, person, song, n);
    }

    public int forgets(int person, int song) {
        if (noPerson(person) || noSong(song)) {
            return refuse(BAD);
        }
        return noneIfNever(outlook.forgetIn(now, person, song));
    }

    public int judge(int s, int n) {
        if (outside(s, SHELF_ROOM) || outside(n, ROW_ROOM + 1)) {
            return refuse(BAD);
        }
        Shelf told = shelves[s];
        int refusal = told.refusalAsTold(n);
        return refusal != 0 ? refuse(refusal) : outlook.firstWrong(now, told, n);
    }

    // ---- TUNES ----

    public int changes(int song, int other) {
        if (noSong(song) || noSong(other)) {
            return refuse(BAD);
        }
        tunes.listenToSong(now, song);
        return tunes.changesTo(now, other);
    }

    public int join(int song, int other) {
        return noSong(song) || noSong(other) ? refuse(BAD) : tunes.joined(now, song, other);
    }

    public int like(int song, int other) {
        return noSong(song) || noSong(other) ? refuse(BAD) : tunes.alike(now, song, other);
    }

    public int nearest(int s, int n, int what) {
        if (outside(s, SHELF_ROOM) || outside(n, NOTES + 1) || outside(what, 2)) {
            return refuse(BAD);
        }
        Shelf told = shelves[s];
        int refusal = told.refusalAsTold(n);
        if (refusal != 0) {
            return refuse(refusal);
        }
        if (!tunes.listenToRow(told, n)) {
            return refuse(STUCK);
        }
        int song = tunes.nearestSong(now);
        return song == NONE || what == 0 ? song : tunes.changesTo(now, song);
    }

    // ---- IN TRUTH ----

    public int pass() {
        now.passYear();
        return now.year;
    }

    public int taught(int person, int song) {
        if (noPerson(person) || noSong(song)) {
            return refuse(BAD);
        }
        if (now.state[song] == LOST || now.heldFor(person, song) != NONE) {
            return refuse(STUCK);
        }
        now.setHeld(person, song, 0);
        return Integer.bitCount(now.havers(song));
    }

    public int drawn(int n) {
        if (outside(n - 1, FAR)) {
            return refuse(BAD);
        }
        if (now.people == 0) {
            return refuse(STUCK);
        }
        int found = 0;
        for (int i = 0; i < n; i++) {
            found += now.passDrawnYear();
        }
        return found;
    }

    public int seed(int v) {
        int was = now.seed;
        now.seed = v;
        return was;
    }

    public int image() {
        kept.become(now);
        hasKept = true;
        return 1;
    }

    public int back() {
        if (!hasKept) {
            return refuse(STUCK);
        }
        now.become(kept);
        for (int s = 0; s < SHELF_ROOM; s++) {
            if (shelves[s].content >= FIRST_SHOWN + now.people) {
                shelves[s].content = NONE;
            }
        }
        return 1;
    }

    public int status(int what) {
        switch (what) {
            case 0:
                return now.people;
            case 1:
                return now.songs;
            case 2:
                return now.work;
            case 3:
                return now.year;
            case 4:
                return Integer.bitCount(now.knownSongs());
            case 5:
                return reader.size;
            case 6:
                return now.seed;
            case 7:
                return filledShelves();
            default:
                return outside(what - 12, REFUSAL_SORTS) ? NONE : refusals[what - 12];
        }
    }

    // ---- small help ----

    /** The numbers that may be are 0 to limit - 1. */
    private static boolean outside(int v, int limit) {
        return v < 0 || v >= limit;
    }

    private boolean noPerson(int person) {
        return outside(person, now.people);
    }

    private boolean noSong(int song) {
        return outside(song, now.songs);
    }

    private static int markLimit(int what) {
        return what == 0 ? LEVELS : what == 1 ? PITCHES : STATES;
    }

    private static int noneIfNever(int years) {
        return years == NEVER ? NONE : years;
    }

    private int refuse(int number) {
        int sort = BAD - number;
        if (!outside(sort, REFUSAL_SORTS)) {
            refusals[sort]++;
        }
        return number;
    }

    private int filledShelves() {
        int filled = 0;
        for (int s = 0; s < SHELF_ROOM; s++) {
            if (shelves[s].content != NONE) {
                filled++;
            }
        }
        return filled;
    }

    /** All that an image keeps: PEOPLE, SONGS, who HAS what, WORK, YEAR and SEED. */
    private static final class Isle {
        private int people;
        private int songs;
        private int work = 3;
        private int year;
        private int seed = 1;
        private int hums;
        private final int[] kind = new int[PEOPLE_ROOM];
        private final int[] a = new int[PEOPLE_ROOM];
        private final int[] memory = new int[PEOPLE_ROOM];
        private final int[] grief = new int[PEOPLE_ROOM];
        private final int[] beside = new int[PEOPLE_ROOM];
        private final int[] hard = new int[SONG_ROOM];
        private final int[] sound = new int[SONG_ROOM];
        private final int[] state = new int[SONG_ROOM];
        private final int[] tune = new int[SONG_ROOM * NOTES];
        private final int[] held = new int[PEOPLE_ROOM * SONG_ROOM];

        private void become(Isle other) {
            people = other.people;
            songs = other.songs;
            work = other.work;
            year = other.year;
            seed = other.seed;
            hums = other.hums;
            System.arraycopy(other.kind, 0, kind, 0, PEOPLE_ROOM);
            System.arraycopy(other.a, 0, a, 0, PEOPLE_ROOM);
            System.arraycopy(other.memory, 0, memory, 0, PEOPLE_ROOM);
            System.arraycopy(other.grief, 0, grief, 0, PEOPLE_ROOM);
            System.arraycopy(other.beside, 0, beside, 0, PEOPLE_ROOM);
            System.arraycopy(other.hard, 0, hard, 0, SONG_ROOM);
            System.arraycopy(other.sound, 0, sound, 0, SONG_ROOM);
            System.arraycopy(other.state, 0, state, 0, SONG_ROOM);
            System.arraycopy(other.tune, 0, tune, 0, SONG_ROOM * NOTES);
            System.arraycopy(other.held, 0, held, 0, PEOPLE_ROOM * SONG_ROOM);
        }

        /** The caller has seen that there is room. */
        private int addPerson(int itsKind, int itsA, int itsMemory, int itsGrief) {
            int person = people;
            kind[person] = itsKind;
            a[person] = itsA;
            memory[person] = itsMemory;
            grief[person] = itsGrief;
            beside[person] = 0;
            setHums(person, false);
            for (int song = 0; song < SONG_ROOM; song++) {
                setHeld(person, song, NONE);
            }
            people = person + 1;
            return person;
        }

        /** The caller has seen that there is room. */
        private int addSong(int itsHard, int itsSound) {
            int song = songs;
            hard[song] = itsHard;
            sound[song] = itsSound;
            state[song] = NEW;
            for (int i = 0; i < NOTES; i++) {
                tune[song * NOTES + i] = 0;
            }
            for (int person = 0; person < PEOPLE_ROOM; person++) {
                setHeld(person, song, NONE);
            }
            songs = song + 1;
            return song;
        }

        private int heldFor(int person, int song) {
            return held[person * SONG_ROOM + song];
        }

        private void setHeld(int person, int song, int years) {
            held[person * SONG_ROOM + song] = years;
        }

        private void setHums(int person, boolean is) {
            hums = withBit(hums, person, is);
        }

        private void setBeside(int person, int other, boolean is) {
            beside[person] = withBit(beside[person], other, is);
            beside[other] = withBit(beside[other], person, is);
        }

        private void leaveTable(int person) {
            for (int other = 0; other < people; other++) {
                setBeside(person, other, false);
            }
        }

        private static int withBit(int bits, int i, boolean is) {
            return is ? bits | 1 << i : bits & ~(1 << i);
        }

        /** Whether one is of a KIND or of one under it. */
        private boolean isOfKind(int person, int wanted) {
            int own = kind[person];
            return wanted == ISLANDER || wanted == own
                || (wanted == DRINKER && own == SAILOR)
                || (wanted == WORKER && own == MAKER);
        }

        private int holdOn(int person, int hardness) {
            int own = memory[person] + hardness - grief[person];
            int sort = kind[person];
            if (sort == DRINKER || sort == SAILOR) {
                own -= a[person];
            } else if (sort == WORKER || sort == MAKER) {
                own -= work;
            }
            // What is taken away is 0 at least, so that 0 at least of the whole is the same as of each part.
            int left = own < 0 ? 0 : own;
            switch (sort) {
                case SAILOR:
                    return (left + 1) / 2;
                case MAKER:
                    return left + 5;
                case CHILD:
                    return 2 * left;
                default:
                    return left;
            }
        }

        private int havers(int song) {
            int bits = 0;
            for (int person = 0; person < people; person++) {
                if (heldFor(person, song) != NONE) {
                    bits |= 1 << person;
                }
            }
            return bits;
        }

        private int repertoire(int person) {
            int bits = 0;
            for (int song = 0; song < songs; song++) {
                if (heldFor(person, song) != NONE) {
                    bits |= 1 << song;
                }
            }
            return bits;
        }

        private int knownSongs() {
            int bits = 0;
            for (int person = 0; person < people; person++) {
                bits |= repertoire(person);
            }
            return bits;
        }

        private int songsOfState(int wanted) {
            int bits = 0;
            for (int song = 0; song < songs; song++) {
                if (state[song] == wanted) {
                    bits |= 1 << song;
                }
            }
            return bits;
        }

        private int peopleWithNone() {
            int bits = 0;
            for (int person = 0; person < people; person++) {
                if (repertoire(person) == 0) {
                    bits |= 1 << person;
                }
            }
            return bits;
        }

        private int peopleWithAll(int wanted) {
            int bits = 0;
            for (int person = 0; person < people; person++) {
                if ((repertoire(person) & wanted) == wanted) {
                    bits |= 1 << person;
                }
            }
            return bits;
        }

        private int mostHeld() {
            int best = NONE;
            int bestCount = -1;
            for (int song = 0; song < songs; song++) {
                int count = Integer.bitCount(havers(song));
                if (count > bestCount) {
                    best = song;
                    bestCount = count;
                }
            }
            return best;
        }

        private int leastHeld() {
            int best = NONE;
            int bestCount = PEOPLE_ROOM + 1;
            for (int song = 0; song < songs; song++) {
                int count = Integer.bitCount(havers(song));
                if (count < bestCount) {
                    best = song;
                    bestCount = count;
                }
            }
            return best;
        }

        private int tableOf(int person) {
            int sitting = 1 << person;
            // The farthest is reached in as many rounds as there are people, at most.
            for (int round = 0; round < people; round++) {
                for (int other = 0; other < people; other++) {
                    if ((sitting >> other & 1) == 1) {
                        sitting |= beside[other];
                    }
                }
            }
            return sitting;
        }

        private int weakestOn(int song) {
            int best = NONE;
            int bestLeft = 0;
            for (int person = 0; person < people; person++) {
                int years = heldFor(person, song);
                int left = holdOn(person, hard[song]) - years;
                if (years != NONE && (best == NONE || left < bestLeft)) {
                    best = person;
                    bestLeft = left;
                }
            }
            return best;
        }

        private int countKind(int wanted) {
            int count = 0;
            for (int person = 0; person < people; person++) {
                if (kind[person] == wanted) {
                    count++;
                }
            }
            return count;
        }

        private int bestMemory() {
            int best = NONE;
            for (int person = 0; person < people; person++) {
                if (best == NONE || memory[person] > memory[best]) {
                    best = person;
                }
            }
            return best;
        }

        /** A YEAR; how many SONGS are found in it. */
        private int passYear() {
            countYear();
            int found = 0;
            for (int song = 0; song < songs; song++) {
                if (passSong(song)) {
                    found++;
                }
            }
            return found;
        }

        /** A YEAR of one SONG alone: what becomes of a SONG hangs on no other one. */
        private void passYearOf(int song) {
            countYear();
            passSong(song);
        }

        private void countYear() {
            year = Math.min(YEAR_LIMIT - 1, year + 1);
        }

        private boolean passSong(int song) {
            forget(song);
            pickUp(song);
            boolean found = callUp(song);
            // Last, so that what is lost just now isn't called up in the same year.
            if (state[song] == NEW && havers(song) == 0) {
                state[song] = LOST;
            }
            return found;
        }

        private void forget(int song) {
            for (int person = 0; person < people; person++) {
                int before = heldFor(person, song);
                if (before != NONE) {
                    int years = Math.min(HELD_LIMIT - 1, before + 1);
                    boolean stays = (hums >> person & 1) == 1 || years <= holdOn(person, hard[song]);
                    setHeld(person, song, stays ? years : NONE);
                }
            }
        }

        private void pickUp(int song) {
            // Taken once, so that no child learns from one who has only just picked it up.
            int singing = havers(song);
            for (int person = 0; person < people; person++) {
                boolean lacks = (singing >> person & 1) == 0;
                if (kind[person] == CHILD && lacks && (beside[person] & singing) != 0) {
                    setHeld(person, song, 0);
                }
            }
        }

        private boolean callUp(int song) {
            if (state[song] != LOST || sound[song] != year % PITCHES) {
                return false;
            }
            int person = bestMemory();
            if (person == NONE) {
                return false;
            }
            setHeld(person, song, 0);
            state[song] = SUNG;
            return true;
        }

        /** The caller has seen that somebody is there. */
        private int passDrawnYear() {
            work = draw(LEVELS);
            int person = draw(people);
            grief[person] = draw(LEVELS);
            return passYear();
        }

        private int draw(int limit) {
            seed = seed * 1103515245 + 12345;
            return limit <= 0 ? 0 : (seed >>> 16) % limit;
        }
    }

    /** What comes of the isle: every question is tried on a copy, so that nothing of it is changed. */
    private static final class Outlook {
        private final Isle then = new Isle();
        private final int[] losses = new int[SONG_ROOM];

        private Isle after(Isle now, int n) {
            then.become(now);
            for (int i = 0; i < n; i++) {
                then.passYear();
            }
            return then;
        }

        private int lossIn(Isle now, int song) {
            then.become(now);
            return lossFromThen(song, FAR);
        }

        /** Behind how many YEARS, limit at most, the SONG isn't new any more, or NEVER; the copy is used up by it. */
        private int lossFromThen(int song, int limit) {
            for (int n = 0; n <= limit; n++) {
                if (then.state[song] != NEW) {
                    return n;
                }
                then.passYearOf(song);
            }
            return NEVER;
        }

        private int findIn(Isle now, int song) {
            then.become(now);
            for (int n = 0; n <= FAR; n++) {
                if (then.state[song] == SUNG) {
                    return n;
                }
                then.passYearOf(song);
            }
            return NEVER;
        }

        private int forgetIn(Isle now, int person, int song) {
            then.become(now);
            for (int n = 0; n <= FAR; n++) {
                if (then.heldFor(person, song) == NONE) {
                    return n;
                }
                then.passYearOf(song);
            }
            return NEVER;
        }

        private int lastHavers(Isle now, int song) {
            if (now.state[song] != NEW) {
                return NONE;
            }
            then.become(now);
            for (int n = 1; n <= FAR; n++) {
                int had = then.havers(song);
                then.passYearOf(song);
                if (then.state[song] != NEW) {
                    return had;
                }
            }
            return NONE;
        }

        private int neededAtTable(Isle now, int song) {
            int best = NONE;
            int soonest = NEVER;
            for (int person = 0; person < now.people; person++) {
                then.become(now);
                then.leaveTable(person);
                int loss = lossFromThen(song, soonest - 1);
                if (loss < soonest) {
                    best = person;
                    soonest = loss;
                }
            }
            return best;
        }

        private int leastWork(Isle now, int song, int n) {
            for (int work = 0; work < LEVELS; work++) {
                then.become(now);
                then.work = work;
                if (lossFromThen(song, n) != NEVER) {
                    return work;
                }
            }
            return NONE;
        }

        private int worstPupils(Isle now, int song, int k) {
            int havers = now.havers(song);
            int best = NONE;
            int soonest = NEVER;
            for (int set = 0; set < 1 << now.people; set++) {
                if ((set & havers) == 0 && Integer.bitCount(set) == k) {
                    then.become(now);
                    teachThen(set, song);
                    int loss = lossFromThen(song, soonest - 1);
                    if (loss < soonest) {
                        best = set;
                        soonest = loss;
                    }
                }
            }
            return best;
        }

        private void teachThen(int set, int song) {
            for (int person = 0; person < then.people; person++) {
                if ((set >> person & 1) == 1) {
                    then.setHeld(person, song, 0);
                }
            }
        }

        private int bestHummer(Isle now, int song) {
            int best = NONE;
            int longest = -1;
            for (int person = 0; person < now.people; person++) {
                if (now.heldFor(person, song) != NONE) {
                    then.become(now);
                    then.setHums(person, true);
                    int loss = lossFromThen(song, FAR);
                    if (loss > longest) {
                        best = person;
                        longest = loss;
                    }
                }
            }
            return best;
        }

        private int nextLost(Isle now) {
            int best = NONE;
            int soonest = NEVER;
            for (int song = 0; song < now.songs; song++) {
                if (now.state[song] == NEW) {
                    then.become(now);
                    int loss = lossFromThen(song, soonest - 1);
                    if (loss < soonest) {
                        best = song;
                        soonest = loss;
                    }
                }
            }
            return best;
        }

        private int inOrder(Isle now, int place) {
            for (int song = 0; song < now.songs; song++) {
                then.become(now);
                losses[song] = lossFromThen(song, FAR);
            }
            for (int song = 0; song < now.songs; song++) {
                if (placeOf(now, song) == place) {
                    return song;
                }
            }
            return NONE;
        }

        private int placeOf(Isle now, int song) {
            int ahead = 0;
            for (int other = 0; other < now.songs; other++) {
                boolean alikeAhead = losses[other] == losses[song] && other < song;
                if (losses[other] < losses[song] || alikeAhead) {
                    ahead++;
                }
            }
            return ahead;
        }

        private int memoriesBy(Isle now, Shelf told, int n, int person) {
            int bits = 0;
            for (int memory = 0; memory < LEVELS; memory++) {
                then.become(now);
                then.memory[person] = memory;
                if (comesAsTold(told, n, person)) {
                    bits |= 1 << memory;
                }
            }
            return bits;
        }

        private int kindsBy(Isle now, Shelf told, int n, int person) {
            int bits = 0;
            for (int kind = 0; kind < KINDS; kind++) {
                then.become(now);
                then.kind[person] = kind;
                if (comesAsTold(told, n, person)) {
                    bits |= 1 << kind;
                }
            }
            return bits;
        }

        private boolean comesAsTold(Shelf told, int n, int person) {
            for (int i = 0; i < n; i++) {
                then.passYear();
                if (then.repertoire(person) != told.elements[i]) {
                    return false;
                }
            }
            return true;
        }

        private int leastGrief(Isle now, int person, int song, int n) {
            for (int grief = 0; grief < LEVELS; grief++) {
                then.become(now);
                then.grief[person] = grief;
                if (losesWithin(person, song, n)) {
                    return grief;
                }
            }
            return NONE;
        }

        private boolean losesWithin(int person, int song, int n) {
            for (int i = 0; i < n; i++) {
                then.passYearOf(song);
                if (then.heldFor(person, song) == NONE) {
                    return true;
                }
            }
            return false;
        }

        private int firstWrong(Isle now, Shelf told, int n) {
            then.become(now);
            for (int i = 0; i < n; i++) {
                then.passYear();
                if (then.knownSongs() != told.elements[i]) {
                    return i;
                }
            }
            return NONE;
        }
    }

    /** What TUNES have of one another; one listens to a tune first and asks then. */
    private static final class Tunes {
        private final int[] heard = new int[NOTES];
        private final int[] costs = new int[NOTES + 1];
        private int heardSize;

        private void listenToSong(Isle now, int song) {
            heardSize = NOTES;
            System.arraycopy(now.tune, song * NOTES, heard, 0, NOTES);
        }

        /** The caller has seen that the row has n elements, 8 at most; false if one of them is no note. */
        private boolean listenToRow(Shelf row, int n) {
            heardSize = n;
            for (int i = 0; i < n; i++) {
                long v = row.elements[i];
                if (v < 0 || v >= PITCHES) {
                    return false;
                }
                heard[i] = (int) v;
            }
            return true;
        }

        /** The costs stand for the notes heard so far against each beginning of the song. */
        private int changesTo(Isle now, int song) {
            for (int j = 0; j <= NOTES; j++) {
                costs[j] = j;
            }
            for (int i = 0; i < heardSize; i++) {
                int diagonal = costs[0];
                costs[0] = i + 1;
                for (int j = 1; j <= NOTES; j++) {
                    int above = costs[j];
                    int changed = diagonal + (heard[i] == now.tune[song * NOTES + j - 1] ? 0 : 1);
                    costs[j] = Math.min(changed, Math.min(above, costs[j - 1]) + 1);
                    diagonal = above;
                }
            }
            return costs[NOTES];
        }

        private int nearestSong(Isle now) {
            int best = NONE;
            int fewest = NOTES + NOTES;
            for (int song = 0; song < now.songs; song++) {
                int changes = changesTo(now, song);
                if (changes < fewest) {
                    best = song;
                    fewest = changes;
                }
            }
            return best;
        }

        private int joined(Isle now, int song, int other) {
            for (int own = 0; own < NOTES; own++) {
                if (endBegins(now, song, other, own)) {
                    return own + NOTES;
                }
            }
            return NOTES + NOTES;
        }

        /** Whether the song from the note own on is how the other one begins. */
        private boolean endBegins(Isle now, int song, int other, int own) {
            for (int i = own; i < NOTES; i++) {
                if (now.tune[song * NOTES + i] != now.tune[other * NOTES + i - own]) {
                    return false;
                }
            }
            return true;
        }

        private int alike(Isle now, int song, int other) {
            int count = 0;
            for (int i = 0; i < NOTES; i++) {
                if (now.tune[song * NOTES + i] == now.tune[other * NOTES + i]) {
                    count++;
                }
            }
            return count;
        }

        private int asDigits(Isle now, int song) {
            int digits = 0;
            for (int i = 0; i < NOTES; i++) {
                digits = digits * 10 + now.tune[song * NOTES + i];
            }
            return digits;
        }
    }

    /** Holds NOTHING, a ROW or one of the PEOPLE; the room for a row is made once and used for every one. */
    private static final class Shelf {
        /** NONE, the SORT of a ROW, or FIRST_SHOWN and the number of a person. */
        private int content = NONE;
        private int size;
        private final long[] elements = new long[ROW_ROOM];

        private void becomeRow(int sort, int n) {
            content = sort;
            size = n;
            for (int i = 0; i < ROW_ROOM; i++) {
                elements[i] = 0;
            }
        }

        private boolean hasPerson() {
            return content >= FIRST_SHOWN;
        }

        private int refusalAsRow() {
            return hasPerson() ? OTHER : content == NONE ? NOTHING : 0;
        }

        private int refusalAsTold(int n) {
            int refusal = refusalAsRow();
            return refusal == 0 && n > size ? BAD : refusal;
        }

        private boolean lacks(int from, int n) {
            return from < 0 || n < 0 || from > size || n > size - from;
        }

        private void put(int i, long v) {
            switch (content) {
                case BYTE_ROW:
                    elements[i] = (byte) v;
                    break;
                case SHORT_ROW:
                    elements[i] = (short) v;
                    break;
                case INT_ROW:
                    elements[i] = (int) v;
                    break;
                case BOOLEAN_ROW:
                    elements[i] = v != 0 ? 1 : 0;
                    break;
                case LONG_ROW:
                default:
                    elements[i] = v;
            }
        }
    }

    /** THE TAPE, and how an ISLE is read from it, token by token. */
    private static final class Reader {
        private static final int END = 0;
        private static final int WORD = 1;
        private static final int NUMBER = 2;
        private static final int SIGN = 3;
        private static final int FOREIGN = 4;

        private static final int PERSON = 0;
        private static final int SONG = 1;
        private static final int HAS = 2;
        private static final int NOT = 3;
        private static final int BESIDE = 4;
        private static final int AWAY = 5;
        private static final int HUMS = 6;
        private static final int STILL = 7;
        private static final int WORK = 8;
        private static final int YEAR = 9;
        private static final int FORMS = 10;

        private static final int DIGITS = 3;
        /** May be nowhere: every limit is lower. */
        private static final int TOO_LONG = 1000;

        private final int[] tape = new int[TAPE_ROOM];
        private final int[] given = new int[4];
        private int size;
        private int token;
        private int number;
        /** The first byte of the token, and the one behind it; at the end both are the size. */
        private int start;
        private int end;

        /** The caller has seen that there is room. */
        private int append(int letter) {
            tape[size] = letter;
            size++;
            return size;
        }

        /** How many STATEMENTS came to the draft; NONE if one can't: start is the FAULT then. */
        private int read(Isle draft) {
            end = 0;
            advance();
            for (int count = 1; count <= TAPE_ROOM; count++) {
                if (!readStatement(draft)) {
                    return NONE;
                }
                if (token == END) {
                    return count;
                }
                if (token != SIGN) {
                    return NONE;
                }
                advance();
            }
            return NONE;
        }

        private boolean readStatement(Isle draft) {
            int form = formOfWord();
            if (form == NONE || !hasRoom(draft, form)) {
                return false;
            }
            advance();
            int wanted = numbersOf(form);
            for (int i = 0; i < wanted; i++) {
                if (token != NUMBER || number >= limitOf(draft, form, i)) {
                    return false;
                }
                if ((form == BESIDE || form == AWAY) && i == 1 && number == given[0]) {
                    return false;
                }
                given[i] = number;
                advance();
            }
            apply(draft, form);
            return true;
        }

        private void advance() {
            start = end;
            while (start < size && tape[start] == ' ') {
                start++;
            }
            end = start;
            if (start >= size) {
                token = END;
            } else if (isLetter(tape[start])) {
                token = WORD;
                while (end < size && isLetter(tape[end])) {
                    end++;
                }
            } else if (isDigit(tape[start])) {
                token = NUMBER;
                readNumber();
            } else {
                token = tape[start] == ';' ? SIGN : FOREIGN;
                end++;
            }
        }

        private void readNumber() {
            number = 0;
            while (end < size && isDigit(tape[end])) {
                number = end - start < DIGITS ? number * 10 + tape[end] - '0' : TOO_LONG;
                end++;
            }
        }

        private static boolean isLetter(int letter) {
            return letter >= 'a' && letter <= 'z';
        }

        private static boolean isDigit(int letter) {
            return letter >= '0' && letter <= '9';
        }

        private int formOfWord() {
            for (int form = 0; form < FORMS; form++) {
                if (spells(wordOf(form))) {
                    return form;
                }
            }
            return NONE;
        }

        private boolean spells(String word) {
            if (token != WORD || end - start != word.length()) {
                return false;
            }
            for (int i = 0; i < word.length(); i++) {
                if (tape[start + i] != word.charAt(i)) {
                    return false;
                }
            }
            return true;
        }

        private static String wordOf(int form) {
            switch (form) {
                case PERSON:
                    return "person";
                case SONG:
                    return "song";
                case HAS:
                    return "has";
                case NOT:
                    return "not";
                case BESIDE:
                    return "beside";
                case AWAY:
                    return "away";
                case HUMS:
                    return "hums";
                case STILL:
                    return "still";
                case WORK:
                    return "work";
                default:
                    return "year";
            }
        }

        private static boolean hasRoom(Isle draft, int form) {
            return (form != PERSON || draft.people < PEOPLE_ROOM) && (form != SONG || draft.songs < SONG_ROOM);
        }

        private static int numbersOf(int form) {
            return form == PERSON ? 4 : form >= HUMS ? 1 : 2;
        }

        private static int limitOf(Isle draft, int form, int i) {
            switch (form) {
                case PERSON:
                    return i == 0 ? KINDS : LEVELS;
                case SONG:
                    return i == 0 ? LEVELS : PITCHES;
                case HAS:
                case NOT:
                    return i == 0 ? draft.people : draft.songs;
                case WORK:
                    return LEVELS;
                case YEAR:
                    return YEAR_LIMIT;
                default:
                    return draft.people;
            }
        }

        private void apply(Isle draft, int form) {
            switch (form) {
                case PERSON:
                    draft.addPerson(given[0], given[1], given[2], given[3]);
                    break;
                case SONG:
                    draft.addSong(given[0], given[1]);
                    break;
                case HAS:
                case NOT:
                    draft.setHeld(given[0], given[1], form == HAS ? 0 : NONE);
                    break;
                case BESIDE:
                case AWAY:
                    draft.setBeside(given[0], given[1], form == BESIDE);
                    break;
                case HUMS:
                case STILL:
                    draft.setHums(given[0], form == HUMS);
                    break;
                case WORK:
                    draft.work = given[0];
                    break;
                default:
                    draft.year = given[0];
            }
        }
    }
}
