import java.lang.reflect.Constructor;
import java.lang.reflect.Field;
import java.lang.reflect.Method;
import java.lang.reflect.Modifier;
import java.util.Set;
import java.util.TreeSet;

/** The face is the document's and no more: all else in the class is private. */
public final class FaceTest {
    private static final Set<String> FACE = Set.of(
        "int point(int, int, int)", "int drop()", "int degree(int)", "int box(int, int)", "int q(int, int)",
        "int begin()", "int go(int)", "int step(int, int)", "int told(int)", "long at(int, int, int)",
        "long multiplier(int, int)", "int lies(int)", "long slope(int, int)", "int check()",
        "int change(int, int, int)", "long decision(int, int, int)", "int predict(int, int)",
        "int count(int)", "long digest()");
    private static final Set<String> CONSTANTS = Set.of("NONE", "BAD", "NO", "FULL");

    private static int right = 0;
    private static int wrong = 0;

    private static void due(String what, boolean holds) {
        if (holds) {
            right++;
        } else {
            wrong++;
            System.out.println(what);
        }
    }

    public static void main(String[] args) {
        methods();
        fields();
        constructorsAndClasses();
        System.out.println(right + " passed, " + wrong + " failed");
        if (wrong != 0) {
            System.exit(1);
        }
    }

    private static String form(Method m) {
        StringBuilder form = new StringBuilder(m.getReturnType() + " " + m.getName() + "(");
        String between = "";
        for (Class<?> type : m.getParameterTypes()) {
            form.append(between).append(type);
            between = ", ";
        }
        return form.append(")").toString();
    }

    private static void methods() {
        Set<String> found = new TreeSet<>();
        Set<String> names = new TreeSet<>();
        for (Method m : MarginTable.class.getDeclaredMethods()) {
            if (Modifier.isPublic(m.getModifiers())) {
                found.add(form(m));
                names.add(m.getName());
                due("declared to throw: " + m, m.getExceptionTypes().length == 0);
                due("static: " + m, !Modifier.isStatic(m.getModifiers()));
            } else {
                due("neither of the face nor private: " + m, Modifier.isPrivate(m.getModifiers()));
            }
        }
        due("the face is " + found, found.equals(FACE));
        for (Method m : MarginTable.class.getDeclaredMethods()) {
            boolean isPublic = Modifier.isPublic(m.getModifiers());
            due("private with a name of the face: " + m, isPublic || !names.contains(m.getName()));
        }
    }

    private static void fields() {
        Set<String> found = new TreeSet<>();
        for (Field f : MarginTable.class.getDeclaredFields()) {
            boolean isConstant = Modifier.isStatic(f.getModifiers());
            due("static but not final: " + f, !isConstant || Modifier.isFinal(f.getModifiers()));
            if (Modifier.isPublic(f.getModifiers())) {
                due("public but no constant: " + f, isConstant && f.getType() == int.class);
                found.add(f.getName());
            } else {
                due("neither of the face nor private: " + f, Modifier.isPrivate(f.getModifiers()));
            }
        }
        due("the constants are " + found, found.equals(CONSTANTS));
    }

    private static void constructorsAndClasses() {
        Constructor<?>[] constructors = MarginTable.class.getDeclaredConstructors();
        due("more than one constructor", constructors.length == 1);
        due("the constructor", constructors[0].getParameterCount() == 0);
        due("it is not public", Modifier.isPublic(constructors[0].getModifiers()));
        due("the class is not public", Modifier.isPublic(MarginTable.class.getModifiers()));
        due("the class is not final", Modifier.isFinal(MarginTable.class.getModifiers()));
        for (Class<?> inside : MarginTable.class.getDeclaredClasses()) {
            int modifiers = inside.getModifiers();
            due("seen from outside: " + inside, !Modifier.isPublic(modifiers) && !Modifier.isProtected(modifiers));
            due("not static: " + inside, Modifier.isStatic(modifiers));
        }
    }
}
