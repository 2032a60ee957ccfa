import java.lang.reflect.Constructor;
import java.lang.reflect.Field;
import java.lang.reflect.Method;
import java.lang.reflect.Modifier;
import java.util.Set;
import java.util.TreeSet;

/** The public face of the document, and the rules of LANGUAGE.md that can be seen in the compiled class. */
public final class FaceTest {
    private static final Set<String> METHODS = Set.of(
            "int enter(int, int, boolean)", "int nest(int, int, boolean)", "int rule(int, int, boolean)",
            "int latest()", "int check(int, int, int)", "int members(int, int)", "int groups(int, int)",
            "int sources(int, int)", "int changed(int, int)", "int since(int, int, int)");
    private static final Set<String> CONSTANTS = Set.of("int BAD", "int GONE");

    public static void main(String[] args) {
        Class<?> type = RelationTuples.class;
        Due.answer("BAD", RelationTuples.BAD, -1);
        Due.answer("GONE", RelationTuples.GONE, -2);
        Due.holds("-1 is told as BAD", tell(-1).equals("BAD"));
        Due.holds("-2 is told as GONE", tell(-2).equals("GONE"));
        Due.answer("modifiers of the class", type.getModifiers(), Modifier.PUBLIC | Modifier.FINAL);
        Due.holds("the class has no package", type.getPackageName().isEmpty());
        Due.holds("the class extends Object alone",
                type.getSuperclass() == Object.class && type.getInterfaces().length == 0);
        Due.answer("nested classes", type.getDeclaredClasses().length, 0);
        constructor(type);
        methods(type);
        fields(type);
        Due.end();
    }

    /** Only compile-time constants may stand as labels: the compiler refuses this test if they are none. */
    private static String tell(int answer) {
        switch (answer) {
            case RelationTuples.BAD:
                return "BAD";
            case RelationTuples.GONE:
                return "GONE";
            default:
                return "";
        }
    }

    private static void constructor(Class<?> type) {
        Constructor<?>[] all = type.getDeclaredConstructors();
        Due.answer("constructors", all.length, 1);
        Due.answer("parameters of the constructor", all[0].getParameterCount(), 0);
        Due.answer("modifiers of the constructor", all[0].getModifiers(), Modifier.PUBLIC);
        Due.answer("exceptions of the constructor", all[0].getExceptionTypes().length, 0);
    }

    private static String signature(Method method) {
        StringBuilder text = new StringBuilder(method.getReturnType() + " " + method.getName() + "(");
        String gap = "";
        for (Class<?> parameter : method.getParameterTypes()) {
            text.append(gap).append(parameter);
            gap = ", ";
        }
        return text.append(")").toString();
    }

    private static void methods(Class<?> type) {
        Set<String> open = new TreeSet<>();
        Set<String> openNames = new TreeSet<>();
        for (Method method : type.getDeclaredMethods()) {
            if (!Modifier.isPrivate(method.getModifiers())) {
                open.add(signature(method));
                openNames.add(method.getName());
                Due.answer("modifiers of " + method.getName(), method.getModifiers(), Modifier.PUBLIC);
                Due.answer("exceptions of " + method.getName(), method.getExceptionTypes().length, 0);
            }
        }
        Due.holds("the methods are those of the document: " + open, open.equals(METHODS));
        for (Method method : type.getDeclaredMethods()) {
            boolean hidden = Modifier.isPrivate(method.getModifiers());
            Due.holds(method.getName() + " is private and bears the name of no public method",
                    !hidden || !openNames.contains(method.getName()));
            Due.holds(method.getName() + " takes at most seven parameters", method.getParameterCount() <= 7);
            Due.holds(method.getName() + " answers no object and no array",
                    method.getReturnType().isPrimitive());
        }
    }

    private static void fields(Class<?> type) {
        Set<String> open = new TreeSet<>();
        for (Field field : type.getDeclaredFields()) {
            int modifiers = field.getModifiers();
            if (!Modifier.isPrivate(modifiers)) {
                open.add(field.getType() + " " + field.getName());
                Due.answer("modifiers of " + field.getName(), modifiers,
                        Modifier.PUBLIC | Modifier.STATIC | Modifier.FINAL);
            }
            if (Modifier.isStatic(modifiers)) {
                Due.holds(field.getName() + " is a constant of int or long", Modifier.isFinal(modifiers)
                        && (field.getType() == int.class || field.getType() == long.class));
            }
            Class<?> cell = field.getType().isArray() ? field.getType().getComponentType() : field.getType();
            Due.holds(field.getName() + " is a number, a boolean or an array of these",
                    cell.isPrimitive() && cell != float.class && cell != double.class);
        }
        Due.holds("the constants are those of the document: " + open, open.equals(CONSTANTS));
    }
}
