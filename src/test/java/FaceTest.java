import java.lang.reflect.Constructor;
import java.lang.reflect.Field;
import java.lang.reflect.Method;
import java.lang.reflect.Modifier;
import java.util.Set;
import java.util.TreeSet;

/** The public face of the document, with nothing else that can be seen from outside. */
public final class FaceTest {
    private static final Set<String> FACE = Set.of(
        "int BAD", "int FULL", "int NOTHING", "int OK", "PersistentHeap()",
        "int make(int, int)", "int fromRoot(int, int)", "int toRoot(int, int)",
        "int fromField(int, int, int)", "int toField(int, int, int)", "int release(int)",
        "int number(int)", "int setNumber(int, int)", "boolean same(int, int)", "int save()",
        "int back()", "int crash(int)", "int collect()", "int collectAndCrash(int)",
        "int needed()", "int reach(int)");

    private static int wrong = 0;

    private static void fault(String text) {
        wrong++;
        System.out.println(text);
    }

    private static String parameters(Class<?>[] types) {
        StringBuilder text = new StringBuilder();
        for (Class<?> type : types) {
            text.append(text.length() == 0 ? "" : ", ").append(type.getName());
        }
        return "(" + text + ")";
    }

    private static void lookAtFace() {
        Set<String> seen = new TreeSet<>();
        Set<String> publicNames = new TreeSet<>();
        Class<?> heap = PersistentHeap.class;
        for (Constructor<?> made : heap.getDeclaredConstructors()) {
            if (!Modifier.isPrivate(made.getModifiers())) {
                seen.add((Modifier.isPublic(made.getModifiers()) ? "" : "not public: ")
                    + "PersistentHeap" + parameters(made.getParameterTypes()));
            }
        }
        for (Method method : heap.getDeclaredMethods()) {
            int kind = method.getModifiers();
            if (!Modifier.isPrivate(kind)) {
                publicNames.add(method.getName());
                seen.add((Modifier.isPublic(kind) && !Modifier.isStatic(kind) ? "" : "not public: ")
                    + method.getReturnType().getName() + " " + method.getName()
                    + parameters(method.getParameterTypes()));
            }
        }
        for (Method method : heap.getDeclaredMethods()) {
            if (Modifier.isPrivate(method.getModifiers()) && publicNames.contains(method.getName())) {
                fault("a private method bears a public name: " + method.getName());
            }
        }
        for (Field field : heap.getDeclaredFields()) {
            if (!Modifier.isPrivate(field.getModifiers())) {
                boolean constant = field.getModifiers() == (Modifier.PUBLIC | Modifier.STATIC | Modifier.FINAL);
                seen.add((constant ? "" : "not a public constant: ")
                    + field.getType().getName() + " " + field.getName());
            }
        }
        if (!seen.equals(new TreeSet<>(FACE))) {
            fault("the face is " + seen + ", due is " + new TreeSet<>(FACE));
        }
        if (heap.getModifiers() != (Modifier.PUBLIC | Modifier.FINAL)) {
            fault("the class is not public and final alone");
        }
    }

    public static void main(String[] args) {
        lookAtFace();
        System.out.println(wrong == 0 ? "the face is as due" : wrong + " faults");
        if (wrong != 0) {
            System.exit(1);
        }
    }
}
