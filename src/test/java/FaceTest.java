import java.io.IOException;
import java.lang.reflect.Constructor;
import java.lang.reflect.Field;
import java.lang.reflect.Method;
import java.lang.reflect.Modifier;
import java.nio.file.Files;
import java.nio.file.Path;
import java.util.Set;
import java.util.TreeSet;

/** The public face, no more and no less, and those rules of LANGUAGE.md that a look can tell. */
public final class FaceTest {
    private static final Check CHECK = new Check();
    private static final String[] FACE = {
        "int append(int)", "int clearInput()", "int firstError()", "int load()", "int degree(int)",
        "int neighbor(int, int)", "int rotor(int)", "int setRotor(int, int)", "int addWalker(int)",
        "int position(int)", "int step(int, int)", "int absorb(int, boolean)", "int arrivals(int)",
        "int departures(int, int)", "int stepsToCycle(int)", "int coverTime(int)", "int leastCoverTime(int)",
        "int bestRotor(int, int)", "long expectedArrivals(int, int, int)", "int snapshot()", "int restore()",
        "int walkerCount()", "int linkCount()", "long digest()",
    };
    private static final String[] CONSTANTS = {
        "BAD_CHARACTER", "BUFFER_FULL", "INVALID_INPUT", "NO_SUCH_NODE", "NO_SUCH_WALKER", "OUT_OF_RANGE",
        "TOO_MANY_WALKERS", "TOO_LARGE", "NO_SNAPSHOT",
    };
    /** What is outside the language, and what of it this class has no need for. */
    private static final String[] NOT_USED = {
        "Double.", "Float.", "->", "::", "Exact(", " try ", "catch", "finally", "synchronized", " assert ",
        "import ", "package ", "static double", "static final double", "hashCode", "equals(", "toString",
        "System.out", "System.nano", "System.current", "Random", "Thread", "static {",
    };

    public static void main(String[] args) throws ReflectiveOperationException, IOException {
        methods();
        constants();
        classAndConstructor();
        source();
        CHECK.finish();
    }

    private static void methods() {
        Set<String> wanted = new TreeSet<>(Set.of(FACE));
        Set<String> names = new TreeSet<>();
        Set<String> found = new TreeSet<>();
        for (Method method : RotorRouter.class.getDeclaredMethods()) {
            if (!Modifier.isPrivate(method.getModifiers())) {
                found.add(signature(method));
                names.add(method.getName());
                CHECK.holds(method + " is public and of an object",
                    Modifier.isPublic(method.getModifiers()) && !Modifier.isStatic(method.getModifiers()));
            }
        }
        CHECK.holds("the methods are " + found, found.equals(wanted));
        for (Method method : RotorRouter.class.getDeclaredMethods()) {
            if (Modifier.isPrivate(method.getModifiers())) {
                CHECK.holds(method + " has a name of its own", !names.contains(method.getName()));
            }
        }
    }

    private static String signature(Method method) {
        StringBuilder text = new StringBuilder();
        text.append(method.getReturnType()).append(' ').append(method.getName()).append('(');
        for (int i = 0; i < method.getParameterCount(); i++) {
            text.append(i == 0 ? "" : ", ").append(method.getParameterTypes()[i]);
        }
        return text.append(')').toString();
    }

    private static void constants() throws ReflectiveOperationException {
        for (int i = 0; i < CONSTANTS.length; i++) {
            Field field = RotorRouter.class.getField(CONSTANTS[i]);
            CHECK.due(CONSTANTS[i], field.getInt(null), -1 - i);
            CHECK.holds(CONSTANTS[i] + " is a constant",
                Modifier.isStatic(field.getModifiers()) && Modifier.isFinal(field.getModifiers()));
        }
        int open = 0;
        for (Field field : RotorRouter.class.getDeclaredFields()) {
            if (!Modifier.isPrivate(field.getModifiers())) {
                open++;
            }
        }
        CHECK.due("fields that are not private", open, CONSTANTS.length);
    }

    private static void classAndConstructor() {
        int modifiers = RotorRouter.class.getModifiers();
        CHECK.holds("the class is public and final", Modifier.isPublic(modifiers) && Modifier.isFinal(modifiers));
        Constructor<?>[] constructors = RotorRouter.class.getDeclaredConstructors();
        CHECK.due("constructors", constructors.length, 1);
        CHECK.holds("the constructor is public", Modifier.isPublic(constructors[0].getModifiers()));
        CHECK.due("its parameters", constructors[0].getParameterCount(), 0);
    }

    private static void source() throws IOException {
        String code = Files.readString(Path.of("src/main/java/RotorRouter.java"))
            .replaceAll("(?s)/\\*.*?\\*/", "").replaceAll("//[^\n]*", "");
        for (String word : NOT_USED) {
            CHECK.holds("the class does without '" + word + "'", !code.contains(word));
        }
        // All calls of a run share one room, so rows are made with the object and never by a call.
        for (String line : code.split("\n")) {
            CHECK.holds(line, !line.contains("new ") || line.matches("\\s+(private )?final \\S+ \\w+ = new .*;"));
        }
    }
}
