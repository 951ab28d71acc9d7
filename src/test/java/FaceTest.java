import java.lang.reflect.Constructor;
import java.lang.reflect.Field;
import java.lang.reflect.Method;
import java.lang.reflect.Modifier;
import java.util.Set;
import java.util.TreeSet;

/** The public face of the document, and no other one; rules 1 and 5 of LANGUAGE.md. */
public final class FaceTest {
    private static final String[] METHODS = {
        "int type(int)", "int clearText()", "int fault()", "int setPuzzle()", "int setCount(int, int)",
        "int mark(int, int)", "int wipe()", "int deduce()", "int deduceAll(int)", "int undo()", "int countOf(int)",
        "int edge(int)", "int edgeAt(boolean, int, int)", "int misfit(int)", "int hint(int)", "int way(int, int)",
        "int solutions(int)", "int nodes(int)", "int solved(int)", "int grade()", "int count(int)", "long digest()"
    };
    private static final Check check = new Check("FaceTest");

    private static String signature(Method method) {
        StringBuilder text = new StringBuilder(method.getReturnType() + " " + method.getName() + "(");
        for (Class<?> type : method.getParameterTypes()) {
            text.append(text.charAt(text.length() - 1) == '(' ? "" : ", ").append(type);
        }
        return text.append(")").toString();
    }

    private static void methods(Set<String> names) {
        Set<String> due = new TreeSet<>(Set.of(METHODS));
        Set<String> found = new TreeSet<>();
        for (Method method : RingPuzzle.class.getDeclaredMethods()) {
            if (Modifier.isPublic(method.getModifiers())) {
                found.add(signature(method));
                names.add(method.getName());
                check.holds(method + " is no static method", !Modifier.isStatic(method.getModifiers()));
            } else {
                check.holds(method + " is private", Modifier.isPrivate(method.getModifiers()));
            }
        }
        check.holds("the public methods " + found, found.equals(due));
    }

    private static void privateNames(Class<?> type, Set<String> names) {
        for (Method method : type.getDeclaredMethods()) {
            boolean isFace = type == RingPuzzle.class && Modifier.isPublic(method.getModifiers());
            check.holds(method + " has a name of its own", isFace || !names.contains(method.getName()));
            check.holds(method + " has seven parameters at most", method.getParameterCount() <= 7);
        }
    }

    private static void fields() {
        Set<String> constants = new TreeSet<>();
        for (Field field : RingPuzzle.class.getDeclaredFields()) {
            if (Modifier.isPublic(field.getModifiers())) {
                constants.add(field.toString());
            } else {
                check.holds(field + " is private", Modifier.isPrivate(field.getModifiers()));
            }
        }
        Set<String> due = new TreeSet<>();
        for (String name : new String[] {"BAD", "STATE", "FULL", "NONE"}) {
            due.add("public static final int RingPuzzle." + name);
        }
        check.holds("the public fields " + constants, constants.equals(due));
        check.due("BAD", RingPuzzle.BAD, -2);
        check.due("STATE", RingPuzzle.STATE, -3);
        check.due("FULL", RingPuzzle.FULL, -4);
        check.due("NONE", RingPuzzle.NONE, -1);
    }

    private static void fieldsOf(Class<?> type) {
        int own = 0;
        for (Field field : type.getDeclaredFields()) {
            boolean isStatic = Modifier.isStatic(field.getModifiers());
            check.holds(field + " is no static state", !isStatic || Modifier.isFinal(field.getModifiers()));
            own += isStatic ? 0 : 1;
        }
        check.holds(type + " has twenty fields at most", own <= 20);
    }

    public static void main(String[] args) {
        Set<String> names = new TreeSet<>();
        methods(names);
        fields();
        check.holds("public final", RingPuzzle.class.getModifiers() == (Modifier.PUBLIC | Modifier.FINAL));
        Constructor<?>[] constructors = RingPuzzle.class.getDeclaredConstructors();
        check.due("constructors", constructors.length, 1);
        check.due("parameters of it", constructors[0].getParameterCount(), 0);
        check.holds("it is public", Modifier.isPublic(constructors[0].getModifiers()));
        privateNames(RingPuzzle.class, names);
        fieldsOf(RingPuzzle.class);
        Class<?>[] inside = RingPuzzle.class.getDeclaredClasses();
        check.holds("twelve classes at most", inside.length < 12);
        for (Class<?> type : inside) {
            int modifiers = type.getModifiers();
            check.holds(type + " is static", Modifier.isStatic(modifiers));
            check.holds(type + " is not public", !Modifier.isPublic(modifiers) && !Modifier.isProtected(modifiers));
            privateNames(type, names);
            fieldsOf(type);
        }
        check.end();
    }
}
