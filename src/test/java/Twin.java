import java.util.ArrayList;
import java.util.Arrays;
import java.util.HashMap;
import java.util.LinkedHashSet;
import java.util.List;
import java.util.Map;
import java.util.Set;
import java.util.TreeSet;
import java.util.function.Consumer;
import java.util.function.ToIntFunction;

/**
 * The document once more, told as plainly as the whole library allows and in another shape than the class: kinds
 * are classes, everything is copied whole, refusals are exceptions. Only there to be compared with.
 */
final class Twin {
    static final class Refused extends RuntimeException {
        private static final long serialVersionUID = 1;
        final int number;

        Refused(int number) {
            super(null, null, false, false);
            this.number = number;
        }
    }

    // ---- the world ----

    static class Islander {
        int number;
        int a;
        int memory;
        int grief;
        boolean hums;
        final Set<Integer> beside = new TreeSet<>();
        final Map<Integer, Integer> has = new HashMap<>();

        int hold(World w, int hard) {
            return Math.max(0, memory + hard - grief);
        }

        Islander same() {
            return new Islander();
        }
    }

    static class Drinker extends Islander {
        int hold(World w, int hard) {
            return Math.max(0, super.hold(w, hard) - a);
        }

        Islander same() {
            return new Drinker();
        }
    }

    static final class Sailor extends Drinker {
        int hold(World w, int hard) {
            int whole = super.hold(w, hard);
            return whole / 2 + whole % 2;
        }

        Islander same() {
            return new Sailor();
        }
    }

    static class Worker extends Islander {
        int hold(World w, int hard) {
            return Math.max(0, super.hold(w, hard) - w.work);
        }

        Islander same() {
            return new Worker();
        }
    }

    static final class Maker extends Worker {
        int hold(World w, int hard) {
            return super.hold(w, hard) + 5;
        }

        Islander same() {
            return new Maker();
        }
    }

    static final class Child extends Islander {
        int hold(World w, int hard) {
            return super.hold(w, hard) * 2;
        }

        Islander same() {
            return new Child();
        }
    }

    static final Class<?>[] KINDS =
        {Islander.class, Drinker.class, Worker.class, Sailor.class, Maker.class, Child.class};

    static Islander made(int kind) {
        switch (kind) {
            case 0: return new Islander();
            case 1: return new Drinker();
            case 2: return new Worker();
            case 3: return new Sailor();
            case 4: return new Maker();
            default: return new Child();
        }
    }

    static int kindOf(Islander p) {
        return Arrays.asList(KINDS).indexOf(p.getClass());
    }

    static final class Song {
        int hard;
        int sound;
        int state;
        int[] tune = new int[8];
    }

    static final class World {
        final List<Islander> people = new ArrayList<>();
        final List<Song> songs = new ArrayList<>();
        int work = 3;
        int year;
        int seed = 1;
        int lastFound;

        World copied() {
            World w = new World();
            for (Islander p : people) {
                w.people.add(moved(p, p.same()));
            }
            for (Song s : songs) {
                Song t = new Song();
                t.hard = s.hard;
                t.sound = s.sound;
                t.state = s.state;
                t.tune = s.tune.clone();
                w.songs.add(t);
            }
            w.work = work;
            w.year = year;
            w.seed = seed;
            return w;
        }

        World with(Consumer<World> change) {
            World w = copied();
            change.accept(w);
            return w;
        }

        /** The isle behind n years. */
        World later(int n) {
            World w = copied();
            for (int i = 0; i < n; i++) {
                w.aYear();
            }
            return w;
        }

        void aYear() {
            lastFound = 0;
            if (year < 999) {
                year++;
            }
            for (Islander p : people) {
                for (int s : new ArrayList<>(p.has.keySet())) {
                    int held = Math.min(99, p.has.get(s) + 1);
                    p.has.put(s, held);
                    if (held > p.hold(this, songs.get(s).hard) && !p.hums) {
                        p.has.remove(s);
                    }
                }
            }
            World ahead = copied();
            for (Islander p : people) {
                if (p instanceof Child) {
                    for (int other : p.beside) {
                        for (int s : ahead.people.get(other).has.keySet()) {
                            p.has.putIfAbsent(s, 0);
                        }
                    }
                }
            }
            for (int s = 0; s < songs.size(); s++) {
                if (songs.get(s).state == 1 && songs.get(s).sound == year % 5 && !people.isEmpty()) {
                    people.get(finder()).has.put(s, 0);
                    songs.get(s).state = 2;
                    lastFound++;
                }
            }
            for (int s = 0; s < songs.size(); s++) {
                if (songs.get(s).state == 0 && havers(s) == 0) {
                    songs.get(s).state = 1;
                }
            }
        }

        int finder() {
            return bestOf(people.size(), p -> -people.get(p).memory);
        }

        int havers(int s) {
            int bits = 0;
            for (Islander p : people) {
                bits += p.has.containsKey(s) ? 1 << p.number : 0;
            }
            return bits;
        }

        int setOf(int p) {
            int bits = 0;
            for (int s : people.get(p).has.keySet()) {
                bits += 1 << s;
            }
            return bits;
        }

        int known() {
            int bits = 0;
            for (int p = 0; p < people.size(); p++) {
                bits |= setOf(p);
            }
            return bits;
        }

        int draw(int n) {
            seed = seed * 1103515245 + 12345;
            return (int) ((seed & 0xffffffffL) / 65536) % n;
        }
    }

    static Islander moved(Islander from, Islander to) {
        to.number = from.number;
        to.a = from.a;
        to.memory = from.memory;
        to.grief = from.grief;
        to.hums = from.hums;
        to.beside.addAll(from.beside);
        to.has.putAll(from.has);
        return to;
    }

    /** The first number below n with the least worth (61 and -1 count as no answer only where the caller says so). */
    static int bestOf(int n, ToIntFunction<Integer> worth) {
        int best = -1;
        for (int i = 0; i < n; i++) {
            if (best < 0 || worth.applyAsInt(i) < worth.applyAsInt(best)) {
                best = i;
            }
        }
        return best;
    }

    /** As an answer; 1000 is never. */
    static final int NEVER = 1000;

    static int lost(World w, int s) {
        for (int n = 0; n <= 60; n++) {
            if (w.songs.get(s).state != 0) {
                return n;
            }
            w = w.later(1);
        }
        return NEVER;
    }

    static int orNone(int n) {
        return n == NEVER ? -1 : n;
    }

    // ---- shelves ----

    static final class Row {
        final int sort;
        final Object array;

        Row(int sort, int n) {
            this.sort = sort;
            Class<?>[] of = {byte.class, short.class, int.class, long.class, boolean.class};
            array = java.lang.reflect.Array.newInstance(of[sort], n);
        }

        int size() {
            return java.lang.reflect.Array.getLength(array);
        }

        void put(int i, long v) {
            switch (sort) {
                case 0: ((byte[]) array)[i] = (byte) v; break;
                case 1: ((short[]) array)[i] = (short) v; break;
                case 2: ((int[]) array)[i] = (int) v; break;
                case 3: ((long[]) array)[i] = v; break;
                default: ((boolean[]) array)[i] = v != 0; break;
            }
        }

        long at(int i) {
            Object o = java.lang.reflect.Array.get(array, i);
            return o instanceof Boolean ? ((Boolean) o ? 1 : 0) : ((Number) o).longValue();
        }
    }

    World w = new World();
    World image;
    final Object[] shelf = new Object[8];
    String tape = "";
    final int[] refusals = new int[7];

    /** What a call answers: the refusal's number instead, and counted, if it is refused. */
    int count(Refused r) {
        refusals[r.number <= -20 ? 2 : -r.number]++;
        return r.number;
    }

    static void bad(boolean is) {
        if (is) {
            throw new Refused(-2);
        }
    }

    static void in(int v, int least, int most) {
        bad(v < least || v > most);
    }

    Islander p(int person) {
        in(person, 0, w.people.size() - 1);
        return w.people.get(person);
    }

    Song g(int song) {
        in(song, 0, w.songs.size() - 1);
        return w.songs.get(song);
    }

    Row rowIn(int s) {
        if (shelf[s] instanceof Integer) {
            throw new Refused(-3);
        }
        if (shelf[s] == null) {
            throw new Refused(-4);
        }
        return (Row) shelf[s];
    }

    Row told(int s, int n) {
        Row r = rowIn(s);
        bad(r.size() < n);
        return r;
    }

    static void stuck(boolean is) {
        if (is) {
            throw new Refused(-5);
        }
    }

    static void full(boolean is) {
        if (is) {
            throw new Refused(-6);
        }
    }

    public int row(int s, int sort, int n) {
        in(s, 0, 7);
        in(sort, 0, 4);
        in(n, 0, 40);
        shelf[s] = new Row(sort, n);
        return 1;
    }

    public int set(int s, int i, long v) {
        in(s, 0, 7);
        Row r = rowIn(s);
        in(i, 0, r.size() - 1);
        r.put(i, v);
        return 1;
    }

    public int copy(int p, int q, int i, int j, int n) {
        in(p, 0, 7);
        in(q, 0, 7);
        Object from = shelf[p];
        Object to = shelf[q];
        if (from instanceof Integer || to instanceof Integer
            || (from != null && to != null && ((Row) from).sort != ((Row) to).sort)) {
            throw new Refused(-3);
        }
        if (from == null || to == null) {
            throw new Refused(-4);
        }
        Row a = (Row) from;
        Row b = (Row) to;
        bad(i < 0 || j < 0 || n < 0 || (long) i + n > a.size() || (long) j + n > b.size());
        long[] taken = new long[n];
        for (int k = 0; k < n; k++) {
            taken[k] = a.at(i + k);
        }
        for (int k = 0; k < n; k++) {
            b.put(j + k, taken[k]);
        }
        return n;
    }

    public long element(int s, int i) {
        if (s < 0 || s > 7 || !(shelf[s] instanceof Row)) {
            return 0;
        }
        Row r = (Row) shelf[s];
        return i < 0 || i >= r.size() ? 0 : r.at(i);
    }

    public int holds(int s) {
        if (s < 0 || s > 7 || shelf[s] == null) {
            return -1;
        }
        return shelf[s] instanceof Row ? ((Row) shelf[s]).sort : 10 + (Integer) shelf[s];
    }

    public int show(int s, int person) {
        in(s, 0, 7);
        if (person != -1) {
            p(person);
        }
        shelf[s] = person == -1 ? null : (Object) person;
        return 1;
    }

    public int says(int s, int kind) {
        in(s, 0, 7);
        in(kind, 0, 5);
        if (shelf[s] == null) {
            throw new Refused(-4);
        }
        if (!(shelf[s] instanceof Integer) || !KINDS[kind].isInstance(p((Integer) shelf[s]))) {
            throw new Refused(-3);
        }
        Islander one = p((Integer) shelf[s]);
        return kind == 0 ? one.memory : one.hold(w, 0);
    }

    public int person(int kind, int a, int memory, int grief) {
        in(kind, 0, 5);
        in(a, 0, 9);
        in(memory, 0, 9);
        in(grief, 0, 9);
        full(w.people.size() == 8);
        Islander one = made(kind);
        one.number = w.people.size();
        one.a = a;
        one.memory = memory;
        one.grief = grief;
        w.people.add(one);
        return one.number;
    }

    public int song(int hard, int sound) {
        in(hard, 0, 9);
        in(sound, 0, 4);
        full(w.songs.size() == 6);
        Song s = new Song();
        s.hard = hard;
        s.sound = sound;
        w.songs.add(s);
        return w.songs.size() - 1;
    }

    public int give(int person, int what, int v) {
        Islander one = p(person);
        in(what, 0, 2);
        in(v, 0, what == 2 ? 1 : 9);
        int was = what == 0 ? one.memory : what == 1 ? one.grief : one.hums ? 1 : 0;
        if (what == 0) {
            one.memory = v;
        }
        if (what == 1) {
            one.grief = v;
        }
        if (what == 2) {
            one.hums = v == 1;
        }
        return was;
    }

    public int mark(int song, int what, int v) {
        Song s = g(song);
        in(what, 0, 2);
        in(v, 0, new int[] {9, 4, 2}[what]);
        int was = what == 0 ? s.hard : what == 1 ? s.sound : s.state;
        if (what == 0) {
            s.hard = v;
        }
        if (what == 1) {
            s.sound = v;
        }
        if (what == 2) {
            s.state = v;
        }
        return was;
    }

    public int note(int song, int i, int v) {
        Song s = g(song);
        in(i, 0, 7);
        in(v, 0, 4);
        int was = s.tune[i];
        s.tune[i] = v;
        return was;
    }

    public int knows(int person, int song, int v) {
        Islander one = p(person);
        g(song);
        in(v, -1, 99);
        Integer was = v == -1 ? one.has.remove(song) : one.has.put(song, v);
        return was == null ? -1 : was;
    }

    public int seat(int person, int other, int is) {
        Islander one = p(person);
        Islander two = p(other);
        in(is, 0, 1);
        bad(one == two);
        int was = one.beside.contains(other) ? 1 : 0;
        sit(w, person, other, is == 1);
        return was;
    }

    static void sit(World w, int person, int other, boolean is) {
        if (is) {
            w.people.get(person).beside.add(other);
            w.people.get(other).beside.add(person);
        } else {
            w.people.get(person).beside.remove(other);
            w.people.get(other).beside.remove(person);
        }
    }

    public int tell(int what, int v) {
        in(what, 0, 1);
        in(v, 0, what == 0 ? 9 : 999);
        int was = what == 0 ? w.work : w.year;
        if (what == 0) {
            w.work = v;
        } else {
            w.year = v;
        }
        return was;
    }

    public int feed(int letter) {
        in(letter, 0, 255);
        full(tape.length() == 250);
        tape += (char) letter;
        return tape.length();
    }

    public int wipe() {
        int was = tape.length();
        tape = "";
        return was;
    }

    /** Every statement's word and what its numbers are: k a kind, d 0 to 9, s 0 to 4, X a person, S a song, y a year. */
    static final String[] FORMS = {"person kddd", "song ds", "has XS", "not XS", "beside XX", "away XX", "hums X",
        "still X", "work d", "year y"};

    public int isle() {
        List<int[]> places = new ArrayList<>();
        List<String> tokens = new ArrayList<>();
        java.util.regex.Matcher m = java.util.regex.Pattern.compile("[a-z]+|[0-9]+|;|[^ ]", java.util.regex.Pattern.DOTALL)
            .matcher(tape);
        while (m.find()) {
            tokens.add(m.group());
            places.add(new int[] {m.start()});
        }
        tokens.add("");
        places.add(new int[] {tape.length()});
        tape = "";
        Twin trial = new Twin();
        trial.w = w.copied();
        int[] at = {0};
        int statements = 0;
        boolean goesOn = true;
        while (goesOn) {
            if (!trial.statement(tokens, at)) {
                throw new Refused(-20 - places.get(at[0])[0]);
            }
            statements++;
            goesOn = tokens.get(at[0]).equals(";");
            if (!goesOn && !tokens.get(at[0]).isEmpty()) {
                throw new Refused(-20 - places.get(at[0])[0]);
            }
            at[0]++;
        }
        w = trial.w;
        return statements;
    }

    private boolean statement(List<String> tokens, int[] at) {
        for (String form : FORMS) {
            String[] parts = form.split(" ");
            if (parts[0].equals(tokens.get(at[0]))) {
                if ((parts[0].equals("person") && w.people.size() == 8)
                    || (parts[0].equals("song") && w.songs.size() == 6)) {
                    return false;
                }
                at[0]++;
                List<Integer> v = new ArrayList<>();
                for (char c : parts[1].toCharArray()) {
                    String token = tokens.get(at[0]);
                    if (!token.matches("[0-9]{1,3}") || Integer.parseInt(token) > most(c)) {
                        return false;
                    }
                    if (parts[1].equals("XX") && v.contains(Integer.parseInt(token))) {
                        return false;
                    }
                    v.add(Integer.parseInt(token));
                    at[0]++;
                }
                carryOut(parts[0], v);
                return true;
            }
        }
        return false;
    }

    private int most(char c) {
        switch (c) {
            case 'k': return 5;
            case 'd': return 9;
            case 's': return 4;
            case 'X': return w.people.size() - 1;
            case 'S': return w.songs.size() - 1;
            default: return 999;
        }
    }

    private void carryOut(String word, List<Integer> v) {
        switch (word) {
            case "person": person(v.get(0), v.get(1), v.get(2), v.get(3)); break;
            case "song": song(v.get(0), v.get(1)); break;
            case "has": knows(v.get(0), v.get(1), 0); break;
            case "not": knows(v.get(0), v.get(1), -1); break;
            case "beside": seat(v.get(0), v.get(1), 1); break;
            case "away": seat(v.get(0), v.get(1), 0); break;
            case "hums": give(v.get(0), 2, 1); break;
            case "still": give(v.get(0), 2, 0); break;
            case "work": tell(0, v.get(0)); break;
            default: tell(1, v.get(0)); break;
        }
    }

    public int personOf(int person, int what) {
        Islander one = p(person);
        in(what, 0, 6);
        int sitters = 0;
        for (int other : one.beside) {
            sitters += 1 << other;
        }
        return new int[] {kindOf(one), one.a, one.memory, one.grief, one.hums ? 1 : 0, sitters, w.setOf(person)}[what];
    }

    public int songOf(int song, int what) {
        Song s = g(song);
        in(what, 0, 4);
        StringBuilder digits = new StringBuilder();
        for (int note : s.tune) {
            digits.append(note);
        }
        return new int[] {s.hard, s.sound, s.state, w.havers(song), Integer.parseInt(digits.toString())}[what];
    }

    public int years(int person, int song) {
        g(song);
        return p(person).has.getOrDefault(song, 100);
    }

    public int hold(int person, int song) {
        return p(person).hold(w, g(song).hard);
    }

    public int behind(int song, int n, int what) {
        g(song);
        in(n, 0, 60);
        in(what, 0, 2);
        World then = w.later(n);
        return new int[] {then.havers(song), then.songs.get(song).state, then.known()}[what];
    }

    public int lostIn(int song) {
        g(song);
        return orNone(lost(w, song));
    }

    public int sungIn(int song) {
        g(song);
        for (int n = 0; n <= 60; n++) {
            if (w.later(n).songs.get(song).state == 2) {
                return n;
            }
        }
        return -1;
    }

    public int last(int song) {
        int n = g(song).state != 0 ? NEVER : lost(w, song);
        return n == NEVER ? -1 : w.later(n - 1).havers(song);
    }

    public int finder() {
        return w.finder();
    }

    public int keep(int song) {
        g(song);
        int[] when = new int[w.people.size()];
        for (int i = 0; i < when.length; i++) {
            int alone = i;
            when[i] = lost(w.with(v -> {
                for (Islander other : v.people) {
                    sit(v, alone, other.number, false);
                }
            }), song);
        }
        int best = bestOf(when.length, i -> when[i]);
        return best < 0 || when[best] == NEVER ? -1 : best;
    }

    public int workFor(int song, int n) {
        g(song);
        in(n, 0, 60);
        for (int work = 0; work <= 9; work++) {
            int told = work;
            if (lost(w.with(v -> v.work = told), song) <= n) {
                return work;
            }
        }
        return -1;
    }

    public int teach(int song, int k) {
        g(song);
        in(k, 0, 8);
        Set<Integer> sets = new LinkedHashSet<>();
        for (int set = 0; set < 256; set++) {
            if (Integer.bitCount(set) == k && set < 1 << w.people.size() && (set & w.havers(song)) == 0) {
                sets.add(set);
            }
        }
        int best = -1;
        int soonest = NEVER;
        for (int set : sets) {
            int when = lost(w.with(v -> {
                for (Islander one : v.people) {
                    if ((set & 1 << one.number) != 0) {
                        one.has.put(song, 0);
                    }
                }
            }), song);
            if (when < soonest) {
                best = set;
                soonest = when;
            }
        }
        return best;
    }

    public int hummer(int song) {
        g(song);
        int best = -1;
        int longest = -1;
        for (Islander one : w.people) {
            if (one.has.containsKey(song)) {
                int when = lost(w.with(v -> v.people.get(one.number).hums = true), song);
                if (when > longest) {
                    best = one.number;
                    longest = when;
                }
            }
        }
        return best;
    }

    public int next() {
        int[] when = new int[w.songs.size()];
        for (int s = 0; s < when.length; s++) {
            when[s] = w.songs.get(s).state == 0 ? lost(w, s) : NEVER;
        }
        int best = bestOf(when.length, s -> when[s]);
        return best < 0 || when[best] == NEVER ? -1 : best;
    }

    public int order(int i) {
        in(i, 0, w.songs.size() - 1);
        List<Integer> all = new ArrayList<>();
        Map<Integer, Integer> when = new HashMap<>();
        for (int s = 0; s < w.songs.size(); s++) {
            all.add(s);
            when.put(s, lost(w, s));
        }
        all.sort((s, t) -> when.get(s).equals(when.get(t)) ? s - t : when.get(s) - when.get(t));
        return all.get(i);
    }

    static int distance(long[] a, int i, int[] b, int j, int[][] memo) {
        if (i == a.length || j == b.length) {
            return a.length - i + b.length - j;
        }
        if (memo[i][j] == 0) {
            int best = Math.min(distance(a, i + 1, b, j, memo), distance(a, i, b, j + 1, memo)) + 1;
            best = Math.min(best, distance(a, i + 1, b, j + 1, memo) + (a[i] == b[j] ? 0 : 1));
            memo[i][j] = best + 1;
        }
        return memo[i][j] - 1;
    }

    public int changes(int song, int other) {
        long[] a = Arrays.stream(g(song).tune).asLongStream().toArray();
        return distance(a, 0, g(other).tune, 0, new int[8][8]);
    }

    public int join(int song, int other) {
        String a = String.format("%08d", songOf(song, 4));
        String b = String.format("%08d", songOf(other, 4));
        for (int n = 8; ; n++) {
            String whole = a + b.substring(16 - n);
            if (whole.endsWith(b)) {
                return n;
            }
        }
    }

    public int like(int song, int other) {
        int[] a = g(song).tune;
        int[] b = g(other).tune;
        int same = 0;
        for (int i = 0; i < 8; i++) {
            same += a[i] == b[i] ? 1 : 0;
        }
        return same;
    }

    public int nearest(int s, int n, int what) {
        in(s, 0, 7);
        in(n, 0, 8);
        in(what, 0, 1);
        Row r = told(s, n);
        long[] notes = new long[n];
        for (int i = 0; i < n; i++) {
            notes[i] = r.at(i);
            stuck(notes[i] < 0 || notes[i] > 4);
        }
        int[] far = new int[w.songs.size()];
        for (int i = 0; i < far.length; i++) {
            far[i] = distance(notes, 0, w.songs.get(i).tune, 0, new int[8][8]);
        }
        int best = bestOf(far.length, i -> far[i]);
        return best < 0 ? -1 : what == 0 ? best : far[best];
    }

    public int fits(int s, int n, int person, int what) {
        in(s, 0, 7);
        in(n, 0, 12);
        p(person);
        in(what, 0, 1);
        Row r = told(s, n);
        int bits = 0;
        for (int v = 0; v < (what == 0 ? 10 : 6); v++) {
            World trial = w.copied();
            Islander one = trial.people.get(person);
            if (what == 0) {
                one.memory = v;
            } else {
                trial.people.set(person, moved(one, made(v)));
            }
            boolean so = true;
            for (int i = 0; i < n; i++) {
                so &= trial.later(i + 1).setOf(person) == r.at(i);
            }
            bits += so ? 1 << v : 0;
        }
        return bits;
    }

    public int griefs(int person, int song, int n) {
        p(person);
        g(song);
        in(n, 0, 60);
        stuck(!p(person).has.containsKey(song));
        for (int grief = 0; grief < 10; grief++) {
            World trial = w.copied();
            trial.people.get(person).grief = grief;
            for (int i = 0; i < n; i++) {
                trial.aYear();
                if (!trial.people.get(person).has.containsKey(song)) {
                    return grief;
                }
            }
        }
        return -1;
    }

    public int songs(int what) {
        in(what, 0, 3);
        int bits = 0;
        for (int s = 0; s < w.songs.size(); s++) {
            bits += w.songs.get(s).state == what - 1 ? 1 << s : 0;
        }
        return what == 0 ? w.known() : bits;
    }

    public int people(int what) {
        in(what, 0, 1);
        int bits = 0;
        for (int i = 0; i < w.people.size(); i++) {
            bits += (what == 0 ? w.setOf(i) == 0 : w.setOf(i) == w.known()) ? 1 << i : 0;
        }
        return bits;
    }

    public int both(int person, int other) {
        p(person);
        p(other);
        bad(person == other);
        return w.setOf(person) & w.setOf(other);
    }

    public int most(int what) {
        in(what, 0, 1);
        return bestOf(w.songs.size(), s -> Integer.bitCount(w.havers(s)) * (what == 0 ? -1 : 1));
    }

    public int table(int person) {
        p(person);
        Set<Integer> seen = new TreeSet<>();
        reach(person, seen);
        int bits = 0;
        for (int i : seen) {
            bits += 1 << i;
        }
        return bits;
    }

    private void reach(int person, Set<Integer> seen) {
        if (seen.add(person)) {
            for (int other : w.people.get(person).beside) {
                reach(other, seen);
            }
        }
    }

    public int weakest(int song) {
        g(song);
        int best = bestOf(w.people.size(), i -> {
            Integer held = w.people.get(i).has.get(song);
            return held == null ? NEVER : hold(i, song) - held;
        });
        return w.havers(song) == 0 ? -1 : best;
    }

    public int forgets(int person, int song) {
        p(person);
        g(song);
        for (int n = 0; n <= 60; n++) {
            if ((w.later(n).havers(song) >> person) % 2 == 0) {
                return n;
            }
        }
        return -1;
    }

    public int ofKind(int kind) {
        in(kind, 0, 5);
        return (int) w.people.stream().filter(one -> kindOf(one) == kind).count();
    }

    public int judge(int s, int n) {
        in(s, 0, 7);
        in(n, 0, 40);
        Row r = told(s, n);
        for (int i = 0; i < n; i++) {
            if (w.later(i + 1).known() != r.at(i)) {
                return i;
            }
        }
        return -1;
    }

    public int pass() {
        w.aYear();
        return w.year;
    }

    public int taught(int person, int song) {
        p(person);
        g(song);
        stuck(g(song).state == 1 || p(person).has.containsKey(song));
        p(person).has.put(song, 0);
        return Integer.bitCount(w.havers(song));
    }

    public int drawn(int n) {
        in(n, 1, 60);
        stuck(w.people.isEmpty());
        int found = 0;
        for (int i = 0; i < n; i++) {
            w.work = w.draw(10);
            Islander one = w.people.get(w.draw(w.people.size()));
            one.grief = w.draw(10);
            w.aYear();
            found += w.lastFound;
        }
        return found;
    }

    public int seed(int v) {
        int was = w.seed;
        w.seed = v;
        return was;
    }

    public int image() {
        image = w.copied();
        return 1;
    }

    public int back() {
        stuck(image == null);
        w = image.copied();
        for (int s = 0; s < 8; s++) {
            if (shelf[s] instanceof Integer && (Integer) shelf[s] >= w.people.size()) {
                shelf[s] = null;
            }
        }
        return 1;
    }

    public int status(int what) {
        switch (what) {
            case 0: return w.people.size();
            case 1: return w.songs.size();
            case 2: return w.work;
            case 3: return w.year;
            case 4: return Integer.bitCount(w.known());
            case 5: return tape.length();
            case 6: return w.seed;
            case 7: return (int) Arrays.stream(shelf).filter(o -> o != null).count();
            case 12: case 13: case 14: case 15: case 16: return refusals[what - 10];
            default: return -1;
        }
    }
}
