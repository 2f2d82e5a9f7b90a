import java.io.IOException;

/**
 * The tests of the sentences are tried themselves: for each sentence the plain room is changed so that
 * the sentence is broken, and the sentence's run has to notice it.
 */
public final class BrokenSentencesTest {
    public static void main(String[] args) throws IOException, ClassNotFoundException {
        Dues dues = new Dues();
        BrokenRooms rooms = new BrokenRooms();
        int changes = 0;
        for (Holding holding : Holding.ofAllFiles()) {
            dues.due("a change is tried for " + holding, holding.asksNothing() == holding.changes.isEmpty());
            for (Change change : holding.changes) {
                Script script = new Script(rooms.with(change));
                dues.due(change + " is noticed by " + holding, !script.wrongAnswers(holding.run()).isEmpty());
                changes++;
            }
        }
        dues.close(changes + " changes that break a sentence");
    }
}
