import java.lang.reflect.Constructor;
import java.lang.reflect.Field;
import java.lang.reflect.Member;
import java.lang.reflect.Method;
import java.lang.reflect.Modifier;
import java.nio.charset.StandardCharsets;
import java.nio.file.Files;
import java.nio.file.Path;
import java.util.Arrays;
import java.util.HashMap;
import java.util.HashSet;
import java.util.Map;
import java.util.Set;
import java.util.TreeSet;
import java.util.regex.Matcher;
import java.util.regex.Pattern;

/** The face as DOC.md gives it, and those rules of LANGUAGE.md that can be seen in the file or in the class. */
public final class RulesTest {
    private static final Path FILE = Path.of("src/main/java/LostBeforeSung.java");
    private static final Path DOC = Path.of("../shared/DOC.md");
    private static final int CALL_DEPTH = 8;
    private static final Due DUE = new Due();

    public static void main(String[] args) throws Exception {
        String source = Files.readString(FILE, StandardCharsets.ISO_8859_1);
        face();
        members();
        words(source);
        methodLengths(source);
        newOnlyWithTheObject(source);
        callDepth(source);
        DUE.end();
    }

    private static String line(Member m, Class<?> type, Class<?>[] parameters) {
        StringBuilder s = new StringBuilder(type == null ? "" : type.getName() + " ").append(m.getName()).append('(');
        for (Class<?> p : parameters) {
            s.append(p.getName()).append(',');
        }
        return s.append(')').toString();
    }

    private static void face() throws Exception {
        Set<String> told = new TreeSet<>();
        Matcher m = Pattern.compile("    public (int|long) (\\w+)\\((.*?)\\);").matcher(Files.readString(DOC));
        while (m.find()) {
            StringBuilder s = new StringBuilder(m.group(1)).append(' ').append(m.group(2)).append('(');
            for (String p : m.group(3).split(", ")) {
                s.append(p.isEmpty() ? "" : p.split(" ")[0] + ",");
            }
            told.add(s.append(')').toString());
        }
        Set<String> there = new TreeSet<>();
        for (Method method : LostBeforeSung.class.getDeclaredMethods()) {
            if (Modifier.isPublic(method.getModifiers())) {
                there.add(line(method, method.getReturnType(), method.getParameterTypes()));
            }
        }
        DUE.be("methods told", told.size(), 55);
        DUE.yes("the face is " + there, told.equals(there));
        Constructor<?>[] made = LostBeforeSung.class.getDeclaredConstructors();
        DUE.yes("one constructor", made.length == 1 && Modifier.isPublic(made[0].getModifiers()));
        DUE.yes("public final", Modifier.isPublic(LostBeforeSung.class.getModifiers())
            && Modifier.isFinal(LostBeforeSung.class.getModifiers()));
    }

    private static void members() {
        Set<String> open = new HashSet<>();
        for (Method m : LostBeforeSung.class.getDeclaredMethods()) {
            if (Modifier.isPublic(m.getModifiers())) {
                open.add(m.getName());
            }
        }
        Class<?>[] inside = LostBeforeSung.class.getDeclaredClasses();
        DUE.yes("twelve classes at most", inside.length < 12);
        for (Class<?> c : inside) {
            DUE.yes(c + " is static", Modifier.isStatic(c.getModifiers()));
            DUE.yes(c + " is no public one", (c.getModifiers() & (Modifier.PUBLIC | Modifier.PROTECTED)) == 0);
            methodsOf(c, open);
            fieldsOf(c);
        }
        methodsOf(LostBeforeSung.class, open);
        fieldsOf(LostBeforeSung.class);
    }

    private static void methodsOf(Class<?> c, Set<String> open) {
        for (Method m : c.getDeclaredMethods()) {
            boolean isPublic = Modifier.isPublic(m.getModifiers());
            DUE.yes(m + " is public or private", isPublic || Modifier.isPrivate(m.getModifiers()));
            DUE.yes(m + " bears a name of its own", isPublic || !open.contains(m.getName()));
            DUE.yes(m + " has seven parameters at most", m.getParameterCount() <= 7);
        }
    }

    private static void fieldsOf(Class<?> c) {
        int fields = 0;
        for (Field f : c.getDeclaredFields()) {
            boolean isStatic = Modifier.isStatic(f.getModifiers());
            fields += isStatic ? 0 : 1;
            DUE.yes(f + " is private", Modifier.isPrivate(f.getModifiers()) || f.getName().equals("NONE"));
            DUE.yes(f + " is final, or no static", !isStatic || Modifier.isFinal(f.getModifiers()));
            DUE.yes(f + " is a constant", !isStatic || f.getType().isPrimitive());
        }
        DUE.yes(c + " has twenty fields at most", fields <= 20);
    }

    private static void words(String source) {
        String[] never = {"throw", "try", "catch", "finally", "synchronized", "assert", "import", "package", "protected",
            "native", "volatile", "transient", "strictfp", "Exception", "System\\.(?!arraycopy)", "Thread", "Random",
            "float", "double", "instanceof", "yield", "record", "var", "->", "::", "@\\w+", "Object", "hashCode",
            "Exact"};
        String code = source.replaceAll("(?s)/\\*.*?\\*/", "").replaceAll("//[^\n]*", "");
        for (String word : never) {
            boolean named = Character.isLetter(word.charAt(0));
            String seen = named ? "\\b" + word + (word.endsWith(")") ? "" : "\\b") : word;
            DUE.yes("no " + word, !Pattern.compile(seen).matcher(code).find());
        }
        DUE.yes("plain signs alone", source.chars().allMatch(c -> c == '\n' || (c >= ' ' && c < 127)));
    }

    private static void methodLengths(String source) {
        String[] lines = source.split("\n");
        int start = -1;
        for (int i = 0; i < lines.length; i++) {
            if (lines[i].matches("(    |        )(public|private).*\\) \\{")) {
                start = i;
            } else if (start >= 0 && lines[i].equals(lines[start].replaceAll("\\S.*", "}"))) {
                DUE.yes("sixty lines at most from " + (start + 1), i - start + 1 <= 60);
                start = -1;
            }
        }
        DUE.yes("all methods end", start == -1);
    }

    /** What calls make stays for ever in the one room, so only the object's own making may make anything. */
    private static void newOnlyWithTheObject(String source) {
        String[] made = Arrays.stream(source.split("\n"))
            .filter(l -> Pattern.compile("\\bnew [A-Za-z]+[\\[(]").matcher(l).find() && !l.contains("final"))
            .map(String::trim).toArray(String[]::new);
        DUE.yes("new elsewhere: " + Arrays.toString(made), Arrays.equals(made, new String[] {"shelves[s] = new Shelf();"}));
        DUE.yes("no clone or copyOf", !source.contains("clone(") && !source.contains("copyOf"));
    }

    /** By names alone: were two of one name, this would only see more calls than there are. */
    private static void callDepth(String source) {
        Map<String, Set<String>> calls = new HashMap<>();
        String header = "(?m)^ +(?:public|private) (?:static )?[\\w\\[\\]]+ (\\w+)\\(.*\\{$";
        Matcher m = Pattern.compile(header).matcher(source);
        while (m.find()) {
            calls.computeIfAbsent(m.group(1), name -> new TreeSet<>());
        }
        m.reset();
        while (m.find()) {
            int end = source.indexOf("\n" + m.group().replaceAll("(?s)^\n*( +).*", "$1") + "}\n", m.end());
            Matcher called = Pattern.compile("\\b(\\w+)\\(").matcher(source.substring(m.end(), end));
            while (called.find()) {
                if (calls.containsKey(called.group(1))) {
                    calls.get(m.group(1)).add(called.group(1));
                }
            }
        }
        DUE.yes("the methods are seen", calls.size() > 100 && calls.get("teach").contains("worstPupils"));
        for (String name : calls.keySet()) {
            DUE.yes(name + " goes " + CALL_DEPTH + " calls deep at most", depthOf(name, calls, 1) <= CALL_DEPTH);
        }
    }

    private static int depthOf(String name, Map<String, Set<String>> calls, int depth) {
        int deepest = depth;
        // One that calls itself has no end, so nothing is looked at that is too deep already.
        if (depth <= CALL_DEPTH) {
            for (String called : calls.get(name)) {
                deepest = Math.max(deepest, depthOf(called, calls, depth + 1));
            }
        }
        return deepest;
    }
}
