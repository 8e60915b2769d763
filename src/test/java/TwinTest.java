import java.lang.reflect.InvocationTargetException;
import java.lang.reflect.Method;
import java.util.ArrayList;
import java.util.Arrays;
import java.util.Collections;
import java.util.HashMap;
import java.util.List;
import java.util.Map;
import java.util.Random;

/** Random runs of calls on the class and on its Twin: every answer must be the same, and nothing may be thrown. */
public final class TwinTest {
    private static final int CALLS = 512;
    /** Calls kept back for looking at the whole state in the end. */
    private static final int LOOKS = 100;
    /** Each method with how many values its arguments have: P of people, G of songs, V any at all, N with NONE too. */
    private static final String[] METHODS = {
        "row 8 5 41", "set 8 41 V", "copy 8 8 6 6 6", "element 8 41", "holds 8", "show 8 NP", "says 8 6",
        "person 6 10 10 10", "song 10 5", "give P 2 10", "give P 3 2", "show 8 NP", "says 8 2", "mark G 3 3", "mark G 2 5", "note G 8 5",
        "knows P G N100", "knows P G N9", "seat P P 2", "tell 2 10", "tell 2 1000", "feed 256", "wipe", "isle",
        "personOf P 7", "songOf G 5", "years P G", "hold P G", "behind G 61 3", "lostIn G", "sungIn G", "last G",
        "finder", "keep G", "workFor G 61", "teach G 9", "teach G 4", "hummer G", "next", "order G", "changes G G",
        "join G G", "like G G", "nearest 8 9 2", "fits 8 13 P 2", "griefs P G 61", "songs 4", "people 2", "both P P",
        "most 2", "table P", "weakest G", "forgets P G", "ofKind 6", "judge 8 41", "pass", "taught P G", "drawn 61",
        "seed V", "image", "back", "status 20"};
    private static final int[] ODD = {-1, -2, 100, 255, 256, 1000, Integer.MAX_VALUE, Integer.MIN_VALUE,
        Integer.MIN_VALUE + 12};
    private static final String[] WORDS = {"person", "song", "has", "not", "beside", "away", "hums", "still", "work",
        "year"};
    private static final int[] NUMBERS = {4, 2, 2, 2, 2, 2, 1, 1, 1, 1};

    private final Map<String, Method> own = new HashMap<>();
    private final Map<String, Method> twins = new HashMap<>();
    private final Random random;
    private LostBeforeSung x;
    private Twin twin;
    private StringBuilder told;
    private int calls;
    private int wrong;

    private TwinTest(long start) {
        random = new Random(start);
        for (Method m : LostBeforeSung.class.getDeclaredMethods()) {
            if (java.lang.reflect.Modifier.isPublic(m.getModifiers())) {
                own.put(m.getName(), m);
            }
        }
        for (String line : METHODS) {
            String name = line.split(" ")[0];
            for (Method m : Twin.class.getDeclaredMethods()) {
                if (m.getName().equals(name) && java.lang.reflect.Modifier.isPublic(m.getModifiers())) {
                    twins.put(name, m);
                }
            }
        }
    }

    public static void main(String[] args) throws Exception {
        int runs = args.length > 0 ? Integer.parseInt(args[0]) : 400;
        long start = args.length > 1 ? Long.parseLong(args[1]) : 7;
        TwinTest test = new TwinTest(start);
        int all = 0;
        for (int run = 0; run < runs && test.wrong == 0; run++) {
            test.run();
            all += test.calls;
        }
        boolean everyMethod = test.twins.keySet().containsAll(test.own.keySet());
        System.out.println(!everyMethod ? "not every method is called"
            : test.wrong == 0 ? runs + " runs, " + all + " calls alike" : "not alike");
        if (test.wrong != 0 || !everyMethod) {
            System.exit(1);
        }
    }

    private void run() throws Exception {
        x = new LostBeforeSung();
        twin = new Twin();
        told = new StringBuilder();
        calls = 0;
        if (random.nextInt(8) != 0) {
            people();
        }
        while (calls < CALLS - LOOKS && wrong == 0) {
            int pick = random.nextInt(100);
            if (pick < 2) {
                tape();
            } else if (pick < 5) {
                log();
            } else if (pick < 6) {
                notes();
            } else if (pick < 7) {
                rows();
            } else if (pick < 9) {
                revive();
            } else if (pick < 10) {
                tunes();
            } else {
                call(METHODS[random.nextInt(METHODS.length)].split(" "));
            }
        }
        wholeState();
    }

    /** Something to ask about. */
    private void people() throws Exception {
        for (int i = random.nextInt(9); i > 0; i--) {
            due("person", random.nextInt(6), random.nextInt(10), random.nextInt(10), random.nextInt(10));
        }
        for (int i = random.nextInt(7); i > 0; i--) {
            due("song", random.nextInt(10), random.nextInt(5));
        }
        for (int i = random.nextInt(16); i > 0; i--) {
            call(new String[] {"knows", "P", "G", "N4"});
            call(new String[] {"seat", "P", "P", "2"});
        }
    }

    /** A row told as it comes, but for an element now and then. */
    private void log() throws Exception {
        if (twin.w.people.isEmpty()) {
            return;
        }
        boolean known = random.nextBoolean();
        int person = random.nextInt(twin.w.people.size());
        int n = random.nextInt(known ? 41 : 13);
        due("row", 1, random.nextInt(4), n);
        for (int i = 0; i < n && calls < CALLS - LOOKS - 4; i++) {
            Twin.World then = twin.w.later(i + 1);
            long set = known ? then.known() : then.setOf(person);
            due("set", 1, i, random.nextInt(30) == 0 ? random.nextInt(64) : set);
        }
        if (known) {
            due("judge", 1, n);
        } else {
            due("fits", 1, n, person, 0);
            due("fits", 1, n, person, 1);
        }
    }

    /** New songs again, held by some, and what comes of them asked at once, as years soon end all. */
    private void revive() throws Exception {
        int people = twin.w.people.size();
        for (int p = 0; p < people; p++) {
            due("give", p, 1, random.nextInt(3));
            due("give", p, 2, random.nextInt(12) == 0 ? 1 : 0);
        }
        for (int s = 0; s < twin.w.songs.size(); s++) {
            due("mark", s, 2, random.nextInt(6) == 0 ? 1 : 0);
            for (int p = 0; p < people; p++) {
                if (random.nextInt(3) == 0) {
                    due("knows", p, s, random.nextInt(4));
                }
            }
            for (String name : new String[] {"lostIn", "sungIn", "last", "keep", "hummer", "weakest"}) {
                due(name, s);
            }
            due("teach", s, random.nextInt(5));
            due("workFor", s, random.nextInt(20));
            call(new String[] {"behind", "G", "20", "3"});
            call(new String[] {"forgets", "P", "G"});
            call(new String[] {"griefs", "P", "G", "9"});
        }
        for (int s = 0; s < twin.w.songs.size(); s++) {
            due("order", s);
        }
        due("next");
        call(new String[] {"seat", "P", "P", "2"});
    }

    private void tunes() throws Exception {
        int notes = 2 + random.nextInt(4);
        for (int s = 0; s < twin.w.songs.size(); s++) {
            for (int i = 0; i < 8; i++) {
                due("note", s, i, random.nextInt(Math.min(5, notes)));
            }
        }
        for (int i = 0; i < 4; i++) {
            call(new String[] {"changes", "G", "G"});
            call(new String[] {"join", "G", "G"});
            call(new String[] {"like", "G", "G"});
        }
    }

    private void rows() throws Exception {
        int sort = random.nextInt(5);
        int n = random.nextInt(8);
        int more = random.nextInt(8);
        due("row", 3, sort, n);
        due("row", 4, random.nextInt(5) == 0 ? random.nextInt(5) : sort, more);
        for (int i = 0; i < n; i++) {
            due("set", 3, i, random.nextLong() >> random.nextInt(64));
        }
        for (int k = 0; k < 5; k++) {
            call(("copy " + (3 + random.nextInt(2)) + " 5 8 8 4").split(" "));
            due("copy", 3 + random.nextInt(2), 3 + random.nextInt(2), random.nextInt(4), random.nextInt(4),
                random.nextInt(6));
            due("element", 3 + random.nextInt(2), random.nextInt(8));
        }
    }

    private void notes() throws Exception {
        int n = random.nextInt(9);
        due("row", 2, random.nextInt(5), n);
        for (int i = 0; i < n && calls < CALLS - LOOKS - 4; i++) {
            due("set", 2, i, (long) random.nextInt(random.nextInt(20) == 0 ? 6 : 5));
        }
        due("nearest", 2, n, 0);
        due("nearest", 2, n, 1);
    }

    private void tape() throws Exception {
        StringBuilder text = new StringBuilder();
        int statements = random.nextInt(20) == 0 ? 30 : 1 + random.nextInt(5);
        for (int i = 0; i < statements; i++) {
            int form = random.nextInt(WORDS.length);
            text.append(i == 0 ? "" : ";").append(blanks(0)).append(WORDS[form]);
            for (int k = 0; k < NUMBERS[form]; k++) {
                text.append(blanks(k == 0 ? 0 : 1)).append(number(form, k));
            }
            text.append(blanks(0));
        }
        if (random.nextInt(3) == 0) {
            corrupt(text);
        }
        for (int i = 0; i < text.length() && calls < CALLS - LOOKS; i++) {
            due("feed", (int) text.charAt(i));
        }
        due("isle");
    }

    private String blanks(int least) {
        int n = least + (random.nextInt(4) == 0 ? random.nextInt(3) : 0);
        return "  ".substring(0, Math.min(2, n));
    }

    private String number(int form, int k) {
        int limit = form == 0 ? (k == 0 ? 6 : 10) : form == 1 ? (k == 0 ? 10 : 5)
            : form == 8 ? 10 : form == 9 ? 1000 : Math.max(1, (form < 4 && k == 1 ? twin.w.songs : twin.w.people).size());
        int v = random.nextInt(25) == 0 ? limit : random.nextInt(limit);
        return (random.nextInt(12) == 0 ? "00" : "") + v;
    }

    private void corrupt(StringBuilder text) {
        int at = random.nextInt(text.length());
        String signs = "aez059; ;A-\n\u00e9/:`{";
        char sign = signs.charAt(random.nextInt(signs.length()));
        switch (random.nextInt(4)) {
            case 0: text.setCharAt(at, sign); break;
            case 1: text.insert(at, sign); break;
            case 2: text.deleteCharAt(at); break;
            default: text.setLength(at); break;
        }
    }

    private void call(String[] form) throws Exception {
        Object[] args = new Object[form.length - 1];
        for (int i = 0; i < args.length; i++) {
            args[i] = argument(form[i + 1]);
        }
        due(form[0], args);
    }

    private Object argument(String form) {
        if (form.equals("V")) {
            return random.nextInt(3) == 0 ? random.nextLong() : (Long) (long) random.nextInt(70);
        }
        if (random.nextInt(40) == 0) {
            return ODD[random.nextInt(ODD.length)];
        }
        int least = form.startsWith("N") ? 1 : 0;
        String rest = form.substring(least);
        int limit = rest.equals("P") ? twin.w.people.size() : rest.equals("G") ? twin.w.songs.size()
            : Integer.parseInt(rest);
        int most = limit + (random.nextInt(20) == 0 ? 1 : 0);
        return random.nextInt(Math.max(1, most + least)) - least;
    }

    private void due(String name, Object... args) throws Exception {
        if (calls >= CALLS) {
            return;
        }
        Class<?>[] types = own.get(name).getParameterTypes();
        for (int i = 0; i < args.length; i++) {
            long v = ((Number) args[i]).longValue();
            args[i] = types[i] == long.class ? (Object) v : (Object) (int) v;
        }
        calls++;
        told.append(name).append(Arrays.toString(args)).append('\n');
        long want;
        try {
            want = ((Number) twins.get(name).invoke(twin, args)).longValue();
        } catch (InvocationTargetException e) {
            if (!(e.getCause() instanceof Twin.Refused)) {
                throw e;
            }
            want = twin.count((Twin.Refused) e.getCause());
        }
        long got = ((Number) own.get(name).invoke(x, args)).longValue();
        if (got != want) {
            wrong++;
            System.out.println(told + "answered " + got + ", the twin " + want);
        }
    }

    /** Of all that can be seen, as much as there are calls left for, by chance. */
    private void wholeState() throws Exception {
        List<Object[]> all = new ArrayList<>();
        for (int p = 0; p < twin.w.people.size(); p++) {
            for (int what = 0; what < 7; what++) {
                all.add(new Object[] {"personOf", p, what});
            }
            for (int s = 0; s < twin.w.songs.size(); s++) {
                all.add(new Object[] {"years", p, s});
            }
        }
        for (int s = 0; s < twin.w.songs.size(); s++) {
            for (int what = 0; what < 5; what++) {
                all.add(new Object[] {"songOf", s, what});
            }
        }
        for (int what = 0; what < 20; what++) {
            all.add(new Object[] {"status", what});
        }
        for (int s = 0; s < 8; s++) {
            all.add(new Object[] {"holds", s});
            for (int i = 0; i < 40 && twin.shelf[s] instanceof Twin.Row; i++) {
                all.add(new Object[] {"element", s, i});
            }
        }
        Collections.shuffle(all, random);
        for (int i = 0; i < all.size() && calls < CALLS; i++) {
            Object[] call = all.get(i);
            due((String) call[0], Arrays.copyOfRange(call, 1, call.length));
        }
    }
}
