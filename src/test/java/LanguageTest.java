import java.io.IOException;
import java.lang.reflect.Field;
import java.lang.reflect.Modifier;
import java.nio.file.Files;
import java.nio.file.Path;
import java.util.ArrayList;
import java.util.HashSet;
import java.util.List;
import java.util.Map;
import java.util.Set;
import java.util.TreeMap;
import java.util.TreeSet;
import java.util.regex.Matcher;
import java.util.regex.Pattern;

/**
 * The rules of LANGUAGE.md that can be looked at in the text of the class, as it is laid out now: a member begins
 * at four blanks, and a method ends at a brace there. What doesn't fit that layout is a fault too; so some rules are
 * looked at more strictly than they are written (all arrays in initialisers, all loops for loops, no overloading).
 */
public final class LanguageTest {
    private static final Path SOURCE = Path.of("src/main/java/PersistentHeap.java");

    private static final int MOST_PARAMETERS = 7;
    private static final int MOST_LINES = 60;
    private static final int MOST_FIELDS = 40;
    private static final int DEEPEST_CALL = 6;

    private static final Pattern FORBIDDEN = Pattern.compile(
        "\\b(package|import|throw|throws|try|catch|finally|synchronized|assert|instanceof|null|float"
        + "|double|String|Object|Math|Integer|Long|System|Arrays|enum|interface|record|var)\\b|->|::|\"");
    private static final Pattern METHOD = Pattern.compile(
        "(?ms)^    (?:public|private) (?:static )?(?:\\w+ )?(\\w+)\\(([^)]*)\\) \\{\n(.*?)^    \\}\n");
    private static final Pattern ARRAY = Pattern.compile(
        "    private final (\\w+)\\[\\] \\w+ = new (\\w+)\\[[A-Z_]+\\];");
    private static final Pattern CALLED = Pattern.compile("(\\w+)\\(");
    private static final Set<String> BEFORE_A_BRACKET = Set.of("if", "for", "while", "switch", "return");

    private static int wrong = 0;
    private static String code = "";
    private static final Map<String, String> bodies = new TreeMap<>();

    private static void fault(String text) {
        wrong++;
        System.out.println(text);
    }

    private static void rule1() {
        Matcher type = Pattern.compile("\\bclass\\b").matcher(code);
        int types = 0;
        while (type.find()) {
            types++;
        }
        if (types != 1) {
            fault("rule 1, so many classes: " + types);
        }
    }

    private static void rules2And5() {
        int fields = 0;
        for (Field field : PersistentHeap.class.getDeclaredFields()) {
            Class<?> type = field.getType();
            boolean fixed = Modifier.isStatic(field.getModifiers());
            if (fixed && !(Modifier.isFinal(field.getModifiers()) && (type == int.class || type == long.class))) {
                fault("rule 5, static and not a constant: " + field.getName());
            }
            Class<?> element = type.isArray() ? type.getComponentType() : type;
            if (!element.isPrimitive() || element == float.class || element == double.class) {
                fault("rule 2, neither a whole number nor an array of these: " + field.getName());
            }
            fields += fixed ? 0 : 1;
        }
        if (fields > MOST_FIELDS) {
            fault("rule 10, so many fields: " + fields);
        }
    }

    private static void rules2And3And6() {
        Matcher matcher = FORBIDDEN.matcher(code);
        while (matcher.find()) {
            fault("rules 2, 3 and 6, not in the language: " + matcher.group());
        }
    }

    private static void rule4() {
        for (String line : code.split("\n")) {
            Matcher array = ARRAY.matcher(line);
            boolean made = array.matches() && array.group(1).equals(array.group(2));
            if (line.matches(".*\\bnew\\b.*") && !made) {
                fault("rule 4, made elsewhere than in a field's initialiser: " + line.strip());
            }
        }
    }

    private static void readMethods() {
        Matcher method = METHOD.matcher(code);
        while (method.find()) {
            String name = method.group(1);
            if (bodies.put(name, method.group(3)) != null) {
                fault("two methods that this test can't tell apart: " + name);
            }
            if (method.group(2).split(",").length > MOST_PARAMETERS) {
                fault("rule 10, too many parameters: " + name);
            }
            if (method.group().lines().count() > MOST_LINES) {
                fault("rule 10, too long: " + name);
            }
        }
        Set<String> names = new TreeSet<>();
        for (var declared : PersistentHeap.class.getDeclaredMethods()) {
            names.add(declared.getName());
        }
        names.add("PersistentHeap");
        if (!bodies.keySet().equals(names)) {
            fault("the methods read are " + bodies.keySet() + ", there are " + names);
        }
    }

    private static List<String> calls(String text) {
        List<String> names = new ArrayList<>();
        Matcher called = CALLED.matcher(text);
        while (called.find()) {
            if (!BEFORE_A_BRACKET.contains(called.group(1))) {
                names.add(called.group(1));
            }
        }
        return names;
    }

    private static void rule3() {
        for (String name : bodies.keySet()) {
            for (String called : calls(bodies.get(name))) {
                if (!bodies.containsKey(called)) {
                    fault("rule 3, " + name + " calls what isn't of the class: " + called);
                }
            }
        }
    }

    /** How deep the calls of a method go, itself counted. */
    private static int depth(String name, Set<String> above) {
        if (!above.add(name)) {
            fault("rule 8, recursion: " + name);
            return 0;
        }
        int deepest = 0;
        for (String called : new HashSet<>(calls(bodies.getOrDefault(name, "")))) {
            deepest = Math.max(deepest, depth(called, above));
        }
        above.remove(name);
        return 1 + deepest;
    }

    private static void rules8And10() {
        for (String name : bodies.keySet()) {
            int depth = depth(name, new HashSet<>());
            if (depth > DEEPEST_CALL) {
                fault("rule 10, calls of " + name + " go so deep: " + depth);
            }
        }
    }

    /** A loop that is a counter against a bound from its first line on. */
    private static void rule8() {
        Matcher loop = Pattern.compile("\\b(for|while|do)\\b[^\n]*").matcher(code);
        while (loop.find()) {
            if (!loop.group().matches("for \\(int (\\w+) = [^;]+; \\1 < [A-Z_]+( && [^;]+)?; \\1\\+\\+\\) \\{")) {
                fault("rule 8, no counter against a bound: " + loop.group());
            }
        }
    }

    private static void rule10OfCallsInArguments() {
        for (String name : bodies.keySet()) {
            String body = bodies.get(name);
            Matcher called = CALLED.matcher(body);
            while (called.find()) {
                String arguments = upToItsEnd(body, called.end());
                if (!BEFORE_A_BRACKET.contains(called.group(1)) && arguments.contains("(")) {
                    fault("rule 10, a call inside the arguments of " + called.group(1) + " in " + name);
                }
            }
        }
    }

    private static String upToItsEnd(String text, int start) {
        int open = 1;
        int at = start;
        while (open > 0 && at < text.length()) {
            open += text.charAt(at) == '(' ? 1 : text.charAt(at) == ')' ? -1 : 0;
            at++;
        }
        return text.substring(start, at);
    }

    public static void main(String[] args) throws IOException {
        code = Files.readString(SOURCE).replaceAll("(?s)/\\*.*?\\*/", "").replaceAll("//[^\n]*", "");
        rule1();
        rules2And5();
        rules2And3And6();
        rule4();
        readMethods();
        rule3();
        rules8And10();
        rule8();
        rule10OfCallsInArguments();
        System.out.println(wrong == 0 ? bodies.size() + " methods keep to the rules looked at" : wrong + " faults");
        if (wrong != 0) {
            System.exit(1);
        }
    }
}
