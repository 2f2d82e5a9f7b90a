import java.io.IOException;
import java.nio.file.Files;
import java.nio.file.Path;
import java.util.HashSet;
import java.util.List;
import java.util.Map;
import java.util.Set;
import java.util.TreeMap;
import java.util.regex.Matcher;
import java.util.regex.Pattern;

/** Rules of LANGUAGE.md that can be seen in the file's text: words that it may not use, and its size. */
public final class LanguageTest {
    private static final Path SOURCE = Path.of("src/main/java/ProjectionRoom.java");
    private static final Set<String> LIBRARY = Set.of("System", "Math");
    // Stricter than the rules: division, texts and null are allowed behind a test, but the class needs none.
    private static final List<String> REFUSED = List.of(
            "\\b(throw|throws|try|catch|finally|synchronized|assert|import|package|protected|native|volatile|transient)\\b",
            "->", "::", "@", "\\binstanceof\\b", "\\b(equals|hashCode|toString|getClass|random|nanoTime|currentTimeMillis)\\b",
            "[/%]", "\\b\\w+Exact\\b", "\"", "\\bnull\\b");
    private static final int MOST_LINES = 60;
    private static final int MOST_DEPTH = 8;

    private static final Dues DUES = new Dues();

    public static void main(String[] args) throws IOException {
        String text = Files.readString(SOURCE);
        DUES.due("only signs 1 to 127", text.chars().allMatch(c -> c > 0 && c < 128));
        String code = text.replaceAll("(?s)/\\*.*?\\*/", "").replaceAll("//[^\n]*", "");
        for (String refused : REFUSED) {
            Matcher matcher = Pattern.compile(refused).matcher(code);
            DUES.due("nothing like " + refused, !matcher.find());
        }
        namesOfClasses(code);
        Map<String, String> bodies = methods(code);
        lengthsOfMethods(bodies);
        depthOfCalls(bodies);
        DUES.close("the rules that can be seen in the file");
    }

    // A class that is not the file's own has to be named above on purpose: none of the library slips in.
    private static void namesOfClasses(String code) {
        Set<String> known = new HashSet<>(LIBRARY);
        Pattern.compile("\\bclass (\\w+)").matcher(code).results().forEach(found -> known.add(found.group(1)));
        Matcher matcher = Pattern.compile("\\b[A-Z][a-z]\\w*").matcher(code);
        while (matcher.find()) {
            DUES.due("the class " + matcher.group() + " is known", known.contains(matcher.group()));
        }
    }

    private static Map<String, String> methods(String code) {
        Pattern head = Pattern.compile("(?m)^( {4}| {8})(?! |(?:if|for|while|switch)\\b)(?:[\\w\\[\\] ]+ )?(\\w+)\\(.*\\) \\{$");
        Matcher matcher = head.matcher(code);
        Map<String, String> bodies = new TreeMap<>();
        while (matcher.find()) {
            int end = code.indexOf("\n" + matcher.group(1) + "}\n", matcher.start());
            String before = bodies.put(matcher.group(2), code.substring(matcher.end(), end));
            DUES.due("one method alone is called " + matcher.group(2), before == null);
        }
        DUES.due("methods are found", bodies.size() > 28);
        return bodies;
    }

    private static void lengthsOfMethods(Map<String, String> bodies) {
        bodies.forEach((name, body) -> {
            long lines = body.lines().count();
            DUES.due(name + " is short: " + lines, lines <= MOST_LINES);
        });
    }

    // Rule 11, and rule 8 in the plainest way: a method that called itself would go deeper than any bound.
    private static void depthOfCalls(Map<String, String> bodies) {
        for (String name : bodies.keySet()) {
            int depth = depth(bodies, name, 1);
            DUES.due(name + " goes at most " + MOST_DEPTH + " deep: " + depth, depth <= MOST_DEPTH);
        }
    }

    private static int depth(Map<String, String> bodies, String name, int above) {
        int deepest = above;
        Matcher call = Pattern.compile("\\b(\\w+)\\(").matcher(bodies.get(name));
        while (call.find() && deepest <= MOST_DEPTH) {
            if (bodies.containsKey(call.group(1))) {
                deepest = Math.max(deepest, depth(bodies, call.group(1), above + 1));
            }
        }
        return deepest;
    }
}
