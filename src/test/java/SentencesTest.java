import java.io.IOException;
import java.util.HashSet;
import java.util.List;
import java.util.Set;
import java.util.stream.IntStream;

/**
 * The document sentence by sentence: each has a run of calls of its own under src/test/sentences, and the
 * run is as due, in the class and in the plain room that it is compared with.
 */
public final class SentencesTest {
    private static final int PROMISES = 29;

    public static void main(String[] args) throws IOException {
        List<Holding> holdings = Holding.ofAllFiles();
        theyAreTheDocuments(holdings);
        runAll(holdings, new Script());
        runAll(holdings, new Script(PlainRoom.class));
    }

    private static void theyAreTheDocuments(List<Holding> holdings) throws IOException {
        Dues dues = new Dues();
        Set<Sentence> said = new HashSet<>(Sentence.ofDocument());
        Set<Sentence> held = new HashSet<>();
        for (Holding holding : holdings) {
            held.add(holding.sentence);
            dues.due("the document says: " + holding, said.contains(holding.sentence));
            dues.due("a promise is named: " + holding,
                    holding.asksNothing() || IntStream.rangeClosed(1, PROMISES).anyMatch(holding::isAbout));
        }
        for (Sentence sentence : said) {
            dues.due("a run holds " + sentence, held.contains(sentence));
        }
        for (int i = 1; i <= PROMISES; i++) {
            int promise = i;
            dues.due("a run holds promise " + promise,
                    holdings.stream().anyMatch(holding -> holding.isAbout(promise) && !holding.asksNothing()));
        }
        long runs = holdings.stream().filter(holding -> !holding.asksNothing()).count();
        dues.close(said.size() + " sentences, " + runs + " runs");
    }

    private static void runAll(List<Holding> holdings, Script script) {
        for (Holding holding : holdings) {
            if (!holding.asksNothing()) {
                script.run(holding.toString(), holding.run());
            }
        }
        script.close();
    }
}
