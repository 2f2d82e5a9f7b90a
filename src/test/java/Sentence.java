import java.io.IOException;
import java.nio.file.Files;
import java.nio.file.Path;
import java.util.ArrayList;
import java.util.List;

/** A sentence of the document, or a part of one between semicolons, and the section that it stands in. */
record Sentence(String section, String words) {
    private static final Path DOCUMENT = Path.of("../shared/DOC.md");

    /** All that the document says of answers; the signatures and the examples have tests of their own. */
    static List<Sentence> ofDocument() throws IOException {
        List<Sentence> all = new ArrayList<>();
        String section = "";
        boolean inExamples = false;
        for (String line : Files.readAllLines(DOCUMENT)) {
            if (line.startsWith("## ")) {
                section = line.substring(3);
            } else if (line.startsWith("Examples:")) {
                inExamples = true;
            } else if (line.equals("The constants:")) {
                inExamples = false;
            } else if (tells(section, line) && !inExamples) {
                addAll(all, section, line);
            }
        }
        return all;
    }

    private static boolean tells(String section, String line) {
        boolean spoken = section.equals("What it is") || section.equals("Description") || section.startsWith("Promise ");
        boolean signature = line.startsWith("`");
        boolean heading = line.startsWith("----");
        return spoken && !line.isBlank() && !signature && !heading;
    }

    private static void addAll(List<Sentence> all, String section, String line) {
        String plain = line.startsWith("- ") ? line.substring(2) : line;
        for (String sentence : plain.split("(?<=\\.) (?=[A-Z])")) {
            for (String part : sentence.split("; ")) {
                all.add(new Sentence(section, part));
            }
        }
    }

    @Override
    public String toString() {
        return section + ": '" + words + "'";
    }
}
