import java.lang.reflect.Constructor;
import java.lang.reflect.Field;
import java.lang.reflect.InvocationTargetException;
import java.lang.reflect.Method;
import java.util.ArrayList;
import java.util.HashMap;
import java.util.List;
import java.util.Map;
import java.util.regex.Matcher;
import java.util.regex.Pattern;

/**
 * Runs of calls written as the document writes its examples: "addReel(0, 10, 0) = 1; loss() = 0;".
 * Every run begins with a new object. Calls are parted by ';' or a new line, '//' begins a remark, and
 * a number may be given by the name of a constant of the class, or as MIN or MAX for the ends of int.
 * "20 * loss() = 0" is twenty calls, each with this answer.
 */
final class Script {
    private static final int MOST_CALLS = 512;
    private static final Pattern CALL = Pattern.compile("(?:(\\d+) \\* )?(\\w+)\\(([^()]*)\\)\\s*=\\s*(-?\\w+)");

    private final Class<?> face;
    private final Map<String, Method> methods = new HashMap<>();
    private int calls = 0;
    private int wrong = 0;

    Script() {
        this(ProjectionRoom.class);
    }

    Script(Class<?> face) {
        this.face = face;
        for (Method method : face.getDeclaredMethods()) {
            // A changed room has another loader, and so another package than this one.
            method.setAccessible(true);
            methods.put(method.getName(), method);
        }
    }

    void run(String title, String text) {
        for (String answer : wrongAnswers(text)) {
            wrong++;
            System.out.println(title + ": " + answer);
        }
    }

    /** What a new room answers otherwise than the run says. */
    List<String> wrongAnswers(String text) {
        Object room = newRoom();
        List<String> wrongOnes = new ArrayList<>();
        int callsOfRun = 0;
        for (String line : text.split("\n")) {
            for (String piece : line.replaceFirst("//.*", "").split(";")) {
                if (!piece.isBlank()) {
                    callsOfRun += check(room, piece.strip(), wrongOnes);
                }
            }
        }
        if (callsOfRun == 0 || callsOfRun > MOST_CALLS) {
            throw new IllegalStateException("a run of " + callsOfRun + " calls: " + text);
        }
        calls += callsOfRun;
        return wrongOnes;
    }

    void close() {
        System.out.println(calls + " calls, " + wrong + " wrong");
        if (wrong != 0 || calls == 0) {
            System.exit(1);
        }
    }

    private int check(Object room, String piece, List<String> wrongOnes) {
        Matcher matcher = CALL.matcher(piece);
        if (!matcher.matches()) {
            throw new IllegalStateException("not a call: " + piece);
        }
        int times = matcher.group(1) == null ? 1 : Integer.parseInt(matcher.group(1));
        for (int i = 0; i < times; i++) {
            Object got = answer(room, matcher.group(2), numbers(matcher.group(3)));
            if (!got.equals(number(matcher.group(4)))) {
                wrongOnes.add(piece + " was due, the answer was " + got);
            }
        }
        return times;
    }

    private Object newRoom() {
        try {
            Constructor<?> constructor = face.getDeclaredConstructor();
            constructor.setAccessible(true);
            return constructor.newInstance();
        } catch (ReflectiveOperationException e) {
            throw new IllegalStateException(e);
        }
    }

    private Object answer(Object room, String name, Object[] arguments) {
        try {
            return methods.get(name).invoke(room, arguments);
        } catch (InvocationTargetException e) {
            return e.getCause();
        } catch (ReflectiveOperationException e) {
            throw new IllegalStateException(name, e);
        }
    }

    private static Object[] numbers(String list) {
        if (list.isBlank()) {
            return new Object[0];
        }
        String[] words = list.split(",");
        Object[] numbers = new Object[words.length];
        for (int i = 0; i < words.length; i++) {
            numbers[i] = number(words[i].strip());
        }
        return numbers;
    }

    private static Integer number(String word) {
        if (word.matches("-?\\d+")) {
            return Integer.valueOf(word);
        }
        if (word.equals("MIN")) {
            return Integer.MIN_VALUE;
        }
        if (word.equals("MAX")) {
            return Integer.MAX_VALUE;
        }
        try {
            Field constant = ProjectionRoom.class.getField(word);
            return constant.getInt(null);
        } catch (ReflectiveOperationException e) {
            throw new IllegalStateException("not a number: " + word, e);
        }
    }
}
