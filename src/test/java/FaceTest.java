import java.lang.reflect.Constructor;
import java.lang.reflect.Field;
import java.lang.reflect.Method;
import java.lang.reflect.Modifier;
import java.util.Map;
import java.util.Set;
import java.util.TreeMap;
import java.util.TreeSet;

/** The public face of the document, and rule 1 and 5 of LANGUAGE.md: nothing else can be seen from outside. */
public final class FaceTest {
    private static final Map<String, Integer> METHODS = Map.ofEntries(
            Map.entry("addReel", 3), Map.entry("removeReels", 1), Map.entry("setHome", 2),
            Map.entry("filmLength", 1), Map.entry("addMachine", 1), Map.entry("removeMachine", 1),
            Map.entry("houseOf", 1), Map.entry("setCarriers", 1), Map.entry("setDuration", 2),
            Map.entry("addShow", 3), Map.entry("removeShow", 1), Map.entry("moveShow", 2),
            Map.entry("addBreak", 3), Map.entry("clearBreaks", 0), Map.entry("startOf", 2),
            Map.entry("machineOf", 2), Map.entry("endOf", 1), Map.entry("delayOf", 1),
            Map.entry("gapOf", 1), Map.entry("loss", 0), Map.entry("carriedReels", 0),
            Map.entry("plateChanges", 0), Map.entry("machineTime", 1), Map.entry("leastShift", 1),
            Map.entry("removalGain", 1), Map.entry("bestHomes", 0), Map.entry("missingMachines", 1),
            Map.entry("undo", 0));
    private static final Map<String, Integer> CONSTANTS = Map.of(
            "INVALID_ARGUMENT", -1, "NOT_POSSIBLE", -2, "CAPACITY_EXCEEDED", -3, "NOT_FOUND", -4,
            "THREADING", 0, "PLATE", 1, "REWINDING", 2, "CARRYING", 3);

    private static final Dues DUES = new Dues();

    public static void main(String[] args) throws ReflectiveOperationException {
        DUES.due("the class is public and final",
                ProjectionRoom.class.getModifiers() == (Modifier.PUBLIC | Modifier.FINAL));
        methods();
        constants();
        constructors();
        classesInside();
        DUES.close("the public face");
    }

    private static void methods() {
        Map<String, Integer> seen = new TreeMap<>();
        Set<String> hidden = new TreeSet<>();
        for (Method method : ProjectionRoom.class.getDeclaredMethods()) {
            if (Modifier.isPrivate(method.getModifiers())) {
                hidden.add(method.getName());
            } else {
                DUES.due(method + " is public, answers an int and is an object's",
                        method.getModifiers() == Modifier.PUBLIC && method.getReturnType() == int.class);
                for (Class<?> parameter : method.getParameterTypes()) {
                    DUES.due(method + " takes ints", parameter == int.class);
                }
                DUES.due(method.getName() + " stands once", seen.put(method.getName(), method.getParameterCount()) == null);
            }
        }
        DUES.due("the methods are those of the document: " + seen, seen.equals(METHODS));
        hidden.retainAll(METHODS.keySet());
        DUES.due("no private method bears a public name: " + hidden, hidden.isEmpty());
    }

    private static void constants() throws ReflectiveOperationException {
        Map<String, Integer> seen = new TreeMap<>();
        for (Field field : ProjectionRoom.class.getDeclaredFields()) {
            int modifiers = field.getModifiers();
            DUES.due(field + " is final if it is static", !Modifier.isStatic(modifiers) || Modifier.isFinal(modifiers));
            if (!Modifier.isPrivate(modifiers)) {
                DUES.due(field + " is a public constant",
                        modifiers == (Modifier.PUBLIC | Modifier.STATIC | Modifier.FINAL) && field.getType() == int.class);
                seen.put(field.getName(), field.getInt(null));
            }
        }
        DUES.due("the constants are those of the document: " + seen, seen.equals(CONSTANTS));
    }

    private static void constructors() {
        Constructor<?>[] all = ProjectionRoom.class.getDeclaredConstructors();
        DUES.due("there is one constructor, public and without arguments", all.length == 1
                && all[0].getParameterCount() == 0 && all[0].getModifiers() == Modifier.PUBLIC);
    }

    private static void classesInside() {
        Class<?>[] inside = ProjectionRoom.class.getDeclaredClasses();
        DUES.due("at most twelve classes in the file", inside.length < 12);
        for (Class<?> one : inside) {
            int modifiers = one.getModifiers();
            DUES.due(one + " is static and not public or protected", Modifier.isStatic(modifiers)
                    && !Modifier.isPublic(modifiers) && !Modifier.isProtected(modifiers));
            int fields = 0;
            for (Field field : one.getDeclaredFields()) {
                fields += Modifier.isStatic(field.getModifiers()) ? 0 : 1;
            }
            DUES.due(one + " has at most twenty fields: " + fields, fields <= 20);
            for (Method method : one.getDeclaredMethods()) {
                DUES.due(method + " bears no public name", !METHODS.containsKey(method.getName()));
                DUES.due(method + " takes at most seven parameters", method.getParameterCount() <= 7);
            }
        }
    }
}
