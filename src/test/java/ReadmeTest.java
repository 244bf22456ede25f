import java.io.IOException;
import java.lang.reflect.Field;
import java.lang.reflect.Method;
import java.lang.reflect.Modifier;
import java.nio.file.Files;
import java.nio.file.Path;
import java.util.regex.Matcher;
import java.util.regex.Pattern;

/** The calls that README.md shows, each with the answer shown beside it, and whether it names the whole face. */
public final class ReadmeTest {
    private static final Path README = Path.of("README.md");
    private static final Pattern EXAMPLE = Pattern.compile("(?s)```java\n(.*?)```");
    private static final Pattern CALL = Pattern.compile("heap\\.(\\w+)\\(([^)]*)\\); +// (-?\\w+)(:.*)?");
    private static final String NEW_HEAP = "PersistentHeap heap = new PersistentHeap();";

    private static int wrong = 0;
    private static int calls = 0;

    private static void fault(String text) {
        wrong++;
        System.out.println(text);
    }

    private static Object answer(PersistentHeap heap, String name, String arguments)
            throws ReflectiveOperationException {
        String[] words = arguments.isBlank() ? new String[0] : arguments.split(", ");
        Class<?>[] types = new Class<?>[words.length];
        Object[] values = new Object[words.length];
        for (int i = 0; i < words.length; i++) {
            types[i] = int.class;
            values[i] = Integer.valueOf(words[i]);
        }
        return PersistentHeap.class.getMethod(name, types).invoke(heap, values);
    }

    /** A constant's name stands for its value. */
    private static String valueOf(String shown) throws ReflectiveOperationException {
        for (Field field : PersistentHeap.class.getFields()) {
            if (field.getName().equals(shown)) {
                return String.valueOf(field.getInt(null));
            }
        }
        return shown;
    }

    private static void runExample(String readme) throws ReflectiveOperationException {
        Matcher example = EXAMPLE.matcher(readme);
        if (!example.find()) {
            fault("README.md shows no calls");
            return;
        }
        PersistentHeap heap = new PersistentHeap();
        for (String line : example.group(1).split("\n")) {
            if (!line.equals(NEW_HEAP)) {
                runLine(heap, line);
            }
        }
        if (calls == 0) {
            fault("README.md shows no calls");
        }
    }

    private static void runLine(PersistentHeap heap, String line) throws ReflectiveOperationException {
        Matcher call = CALL.matcher(line);
        if (!call.matches()) {
            fault("not a call with its answer: " + line);
            return;
        }
        calls++;
        String got = String.valueOf(answer(heap, call.group(1), call.group(2)));
        if (!got.equals(valueOf(call.group(3)))) {
            fault(line + " answered " + got);
        }
    }

    private static void lookForTheFace(String readme) {
        for (Method method : PersistentHeap.class.getDeclaredMethods()) {
            if (Modifier.isPublic(method.getModifiers()) && !readme.contains("| `" + method.getName() + "(")) {
                fault("README.md does not tell of " + method.getName());
            }
        }
        for (Field field : PersistentHeap.class.getFields()) {
            if (!readme.contains("`" + field.getName() + "`")) {
                fault("README.md does not tell of " + field.getName());
            }
        }
    }

    public static void main(String[] args) throws IOException, ReflectiveOperationException {
        String readme = Files.readString(README);
        runExample(readme);
        lookForTheFace(readme);
        System.out.println(wrong == 0 ? calls + " calls answer as README.md shows" : wrong + " faults");
        if (wrong != 0) {
            System.exit(1);
        }
    }
}
