import java.util.regex.Matcher;
import java.util.regex.Pattern;

/**
 * A change of the plain room's text that breaks a sentence: within one method, or anywhere if method is
 * empty. The words to be changed must stand there just once, so that it is plain what is broken.
 */
record Change(String method, String from, String to) {
    private static final Pattern FORM = Pattern.compile("(?:(\\w+): )?(.+?) ~>(?: (.*))?");

    static Change of(String line) {
        Matcher matcher = FORM.matcher(line);
        if (!matcher.matches()) {
            throw new IllegalStateException("not a change: " + line);
        }
        String method = matcher.group(1) == null ? "" : matcher.group(1);
        String to = matcher.group(3) == null ? "" : matcher.group(3);
        return new Change(method, matcher.group(2), to);
    }

    String appliedTo(String source) {
        int begin = 0;
        int end = source.length();
        if (!method.isEmpty()) {
            Matcher head = Pattern.compile("(?m)^( +)\\w.* " + method + "\\([^;{]*\\) \\{$").matcher(source);
            if (!head.find()) {
                throw new IllegalStateException("no such method: " + this);
            }
            begin = head.start();
            end = source.indexOf("\n" + head.group(1) + "}\n", begin);
        }
        int at = source.indexOf(from, begin);
        int next = source.indexOf(from, at + 1);
        if (at < 0 || at >= end || (next >= 0 && next < end)) {
            throw new IllegalStateException("does not stand there just once: " + this);
        }
        return source.substring(0, at) + to + source.substring(at + from.length());
    }
}
