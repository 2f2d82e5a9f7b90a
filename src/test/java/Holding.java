import java.io.IOException;
import java.nio.file.Files;
import java.nio.file.Path;
import java.util.ArrayList;
import java.util.List;
import java.util.stream.Stream;

/**
 * What holds a sentence of the document: the promises that it is about, a run of calls, and changes of
 * the plain room that break the sentence, each of which the run has to notice.
 *
 * The files under src/test/sentences have, line by line: '== ' and a section of the document; '-- ' and a
 * sentence; '@@ ' and the promises that it is about, where the section is none; then the run, as Script
 * reads it; '~~ ' and a change, 'method: old text ~> new text', or without 'method: ' if the old text
 * stands just once in the file. '.. ' and a sentence: it asks nothing of any call, and has no run.
 */
final class Holding {
    private static final Path FOLDER = Path.of("src/test/sentences");

    final Sentence sentence;
    final List<Change> changes = new ArrayList<>();
    private final StringBuilder run = new StringBuilder();
    private String promises;

    private Holding(Sentence sentence) {
        this.sentence = sentence;
        this.promises = sentence.section().replaceAll("^Promise (\\d+):.*|^.*", "$1");
    }

    static List<Holding> ofAllFiles() throws IOException {
        List<Holding> all = new ArrayList<>();
        try (Stream<Path> files = Files.list(FOLDER)) {
            for (Path file : files.sorted().toList()) {
                addAll(all, Files.readAllLines(file));
            }
        }
        return all;
    }

    private static void addAll(List<Holding> all, List<String> lines) {
        String section = "";
        for (String line : lines) {
            if (line.startsWith("== ")) {
                section = line.substring(3);
            } else if (line.startsWith("-- ") || line.startsWith(".. ")) {
                all.add(new Holding(new Sentence(section, line.substring(3))));
            } else if (!line.isBlank()) {
                all.get(all.size() - 1).addLine(line);
            }
        }
    }

    private void addLine(String line) {
        if (line.startsWith("@@ ")) {
            promises = line.substring(3);
        } else if (line.startsWith("~~ ")) {
            changes.add(Change.of(line.substring(3)));
        } else {
            run.append(line).append('\n');
        }
    }

    String run() {
        return run.toString();
    }

    boolean asksNothing() {
        return run.isEmpty();
    }

    boolean isAbout(int promise) {
        return List.of(promises.split(", ")).contains(Integer.toString(promise));
    }

    @Override
    public String toString() {
        return "promise " + promises + ", " + sentence.section() + ": '" + sentence.words() + "'";
    }
}
