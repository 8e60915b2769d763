import java.nio.file.Path;

/** Every sentence of DOC.md with a test of its own: what it names at its edges, and what it refuses. */
public final class SentencesTest {
    public static void main(String[] args) throws Exception {
        Due due = new Due();
        Sentences t = new Sentences(due, Path.of("../shared/DOC.md"));
        ShelfSentences.all(t);
        IsleSentences.all(t);
        TapeSentences.all(t);
        YearSentences.all(t);
        AskingSentences.all(t);
        OutlookSentences.all(t);
        TuneSentences.all(t);
        TruthSentences.all(t);
        RefusalSentences.all(t);
        t.everyWordHasATest();
        due.end();
    }
}
