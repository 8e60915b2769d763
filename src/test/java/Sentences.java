import java.io.IOException;
import java.nio.file.Files;
import java.nio.file.Path;
import java.util.Map;
import java.util.TreeMap;
import java.util.regex.Matcher;
import java.util.regex.Pattern;

/**
 * Tests by the sentences of DOC.md: each is told with the words that it stands for, and fails by itself. The words
 * must stand in the document just once, so that no test outlives its sentence; and no word may be left without one.
 */
final class Sentences {
    /** The paragraphs by promise; the text ahead of promise 1 (under Terms) is TERMS, what is ahead of that INTRO. */
    static final int TERMS = 0;
    static final int INTRO = -1;
    private static final int PROMISES = 56;

    interface Body {
        void test(Due due);
    }

    private final Map<Integer, String> told = new TreeMap<>();
    private final Map<Integer, boolean[]> tested = new TreeMap<>();
    private final Due due;
    private int count;

    Sentences(Due due, Path doc) throws IOException {
        this.due = due;
        String whole = Files.readString(doc);
        keep(INTRO, between(whole, "## What it is", "## The public face"));
        keep(TERMS, between(whole, "## Terms", "## Promise 1:").replaceAll("```(text)?", " ")
            .replaceAll("==== \\d\\. [A-Z ]+", " "));
        Matcher m = Pattern.compile("## Promise (\\d+): [^\n]+\\s+`[^`]*`:(.*?)(?=## )", Pattern.DOTALL).matcher(whole);
        while (m.find()) {
            keep(Integer.parseInt(m.group(1)), m.group(2));
        }
    }

    private static String between(String whole, String from, String to) {
        int start = whole.indexOf(from);
        int end = whole.indexOf(to);
        return start < 0 || end < start ? "" : whole.substring(start + from.length(), end);
    }

    private void keep(int promise, String text) {
        String plain = text.replaceAll("\\s+", " ").trim();
        told.put(promise, plain);
        tested.put(promise, new boolean[plain.length()]);
    }

    void of(int promise, String words, Body body) {
        due.about("");
        String text = told.getOrDefault(promise, "");
        int at = text.indexOf(words);
        due.yes("promise " + promise + " has once '" + words + "'", at >= 0 && text.indexOf(words, at + 1) < 0);
        for (int i = 0; at >= 0 && i < words.length(); i++) {
            tested.get(promise)[at + i] = true;
        }
        due.about((promise > 0 ? "promise " + promise : "terms") + ", '" + words + "': ");
        int before = due.calls();
        body.test(due);
        due.yes("has a test", due.calls() > before);
        due.about("");
        count++;
    }

    /** No word of the terms and of the promises may be without a test. */
    void everyWordHasATest() {
        due.be("paragraphs", told.size(), PROMISES + 2);
        for (int promise = TERMS; promise <= PROMISES; promise++) {
            StringBuilder left = new StringBuilder();
            String text = told.getOrDefault(promise, "no such promise");
            for (int i = 0; i < text.length(); i++) {
                boolean is = tested.containsKey(promise) && tested.get(promise)[i];
                left.append(is ? '_' : text.charAt(i));
            }
            String words = left.toString().replaceAll("_+", "_");
            due.yes("promise " + promise + " has no test for: " + words, !Pattern.compile("\\w").matcher(
                words.replace('_', ' ')).find());
        }
        System.out.println(count + " sentences, each with a test of its own");
    }
}
