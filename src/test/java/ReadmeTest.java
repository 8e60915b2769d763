import java.io.File;
import java.io.IOException;
import java.lang.reflect.Method;
import java.lang.reflect.Modifier;
import java.nio.file.Files;
import java.nio.file.Path;
import java.util.ArrayList;
import java.util.Comparator;
import java.util.List;
import java.util.regex.Matcher;
import java.util.regex.Pattern;
import java.util.stream.Stream;

/** What README.md says is so: its commands end well in a copy of the checkout, its program prints what it says there. */
public final class ReadmeTest {
    private static final Path README = Path.of("README.md");
    private static final Path TESTS = Path.of("src/test/java");
    /** It runs this test, so this test only looks whether it can be run. */
    private static final String ALL = ".ci/run";
    private static final Due DUE = new Due();

    private static final class Block {
        private final String sort;
        private final String text;

        private Block(String sort, String text) {
            this.sort = sort;
            this.text = text;
        }
    }

    public static void main(String[] args) throws Exception {
        String readme = Files.readString(README);
        namesEveryCall(readme);
        namesEveryTest(readme);
        Path work = Files.createTempDirectory("readme");
        try {
            Path copy = copyOfTheCheckout(work);
            commandsAreSo(blocks(readme), copy);
        } finally {
            deleteAll(work);
        }
        DUE.end();
    }

    private static void namesEveryCall(String readme) {
        for (Method m : LostBeforeSung.class.getDeclaredMethods()) {
            if (Modifier.isPublic(m.getModifiers())) {
                DUE.yes("README names " + m.getName(), readme.contains("`" + m.getName() + "`"));
            }
        }
    }

    private static void namesEveryTest(String readme) {
        File[] files = TESTS.toFile().listFiles();
        for (File file : files == null ? new File[0] : files) {
            if (file.getName().endsWith("Test.java")) {
                String name = file.getName().replace(".java", "");
                DUE.yes("README names " + name, readme.contains("`" + name + "`"));
            }
        }
        Matcher m = Pattern.compile("\\b(\\w+Test)\\b").matcher(readme);
        while (m.find()) {
            DUE.yes("README's " + m.group(1) + " is there", Files.exists(TESTS.resolve(m.group(1) + ".java")));
        }
    }

    private static List<Block> blocks(String readme) {
        List<Block> blocks = new ArrayList<>();
        Matcher m = Pattern.compile("(?ms)^```(\\w+)\n(.*?)^```$").matcher(readme);
        while (m.find()) {
            blocks.add(new Block(m.group(1), m.group(2)));
        }
        return blocks;
    }

    /** A program is put where its name says, a command is run, and a text behind a command is what it printed. */
    private static void commandsAreSo(List<Block> blocks, Path copy) throws Exception {
        String printed = "";
        int programs = 0;
        int commands = 0;
        for (Block block : blocks) {
            if (block.sort.equals("java")) {
                Matcher name = Pattern.compile("public final class (\\w+)").matcher(block.text);
                DUE.yes("README's program has a name", name.find());
                Files.writeString(copy.resolve(name.group(1) + ".java"), block.text);
                programs++;
            } else if (block.sort.equals("text")) {
                DUE.yes("README's program prints:\n" + printed, printed.equals(block.text));
            } else if (block.text.trim().equals(ALL)) {
                DUE.yes(ALL + " can be run", Files.isExecutable(Path.of(ALL)));
            } else {
                printed = run(block.text, copy);
                commands++;
            }
        }
        DUE.be("README's programs", programs, 1);
        DUE.be("README's blocks of commands", commands, 2);
    }

    private static String run(String commands, Path copy) throws Exception {
        Process process = new ProcessBuilder("bash", "-e", "-c", commands).directory(copy.toFile())
            .redirectErrorStream(true).start();
        process.getOutputStream().close();
        String printed = new String(process.getInputStream().readAllBytes());
        int end = process.waitFor();
        DUE.be("README's\n" + commands + "which printed\n" + printed + "and so", end, 0);
        return printed;
    }

    private static Path copyOfTheCheckout(Path work) throws IOException {
        Path copy = Files.createDirectory(work.resolve("main"));
        Files.createSymbolicLink(work.resolve("shared"), Path.of("../shared").toAbsolutePath().normalize());
        try (Stream<Path> all = Files.walk(Path.of("src"))) {
            for (Path from : (Iterable<Path>) all::iterator) {
                Files.copy(from, copy.resolve(from.toString()));
            }
        }
        return copy;
    }

    private static void deleteAll(Path work) throws IOException {
        try (Stream<Path> all = Files.walk(work)) {
            for (Path path : (Iterable<Path>) all.sorted(Comparator.reverseOrder())::iterator) {
                Files.delete(path);
            }
        }
    }
}
