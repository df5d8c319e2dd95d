import java.lang.reflect.Constructor;
import java.lang.reflect.Field;
import java.lang.reflect.Method;
import java.lang.reflect.Modifier;
import java.util.Set;
import java.util.TreeSet;

/** The public face: the members and constants of the document, and no other ones that can be seen. */
public final class FaceTest {
    private static final String[] METHODS = {
        "int size(int)", "int column(int)", "int drop(int)", "int kindOf(int)", "int ask(int, int, int)", "long got()",
        "int write(int, int, int, long)", "int bring(int, int, int, int, int)", "int swap(int, int)", "int differs(int, int)",
        "int of(int, int)", "int view(int)", "int viewed(int, int)", "int keep(int, int, int, int, long)",
        "int key(int, boolean)", "int sort(int)", "int filter(int, int, int, long)", "int order(int, int)", "int looked(int)",
        "int run(int)", "int pair(int, int, int)", "int group(int, int, int, int)", "int sum(int, int, int, int)",
        "int loses(int, int)", "int casts(int)", "int cast(int, int)", "int feed(int)", "int read()",
        "int spelled(int, int)", "int image()", "int undo()", "int count(int)"};
    private static final String[] CONSTANTS = {
        "NONE -1", "BAD -2", "STATE -3", "FULL -4", "OVER -15", "BEYOND -21", "OTHER -22", "NOTHING -23"};

    private static String told(Method method) {
        StringBuilder text = new StringBuilder();
        for (Class<?> type : method.getParameterTypes()) {
            text.append(text.length() == 0 ? "" : ", ").append(type.getName());
        }
        return method.getReturnType().getName() + " " + method.getName() + "(" + text + ")";
    }

    private static void methods() {
        Set<String> seen = new TreeSet<>();
        Set<String> names = new TreeSet<>();
        for (Method method : ColumnCasts.class.getDeclaredMethods()) {
            if (!Modifier.isPrivate(method.getModifiers())) {
                seen.add(told(method));
                names.add(method.getName());
                Checks.due("modifiers of " + method.getName(), method.getModifiers(), Modifier.PUBLIC);
            }
        }
        Checks.due("methods", seen.toString(), new TreeSet<>(Set.of(METHODS)).toString());
        for (Method method : ColumnCasts.class.getDeclaredMethods()) {
            boolean isHidden = Modifier.isPrivate(method.getModifiers());
            Checks.due("a private " + method.getName(), isHidden && names.contains(method.getName()) ? 1 : 0, 0);
        }
    }

    private static void fields() throws IllegalAccessException {
        Set<String> seen = new TreeSet<>();
        int own = 0;
        for (Field field : ColumnCasts.class.getDeclaredFields()) {
            boolean isStatic = Modifier.isStatic(field.getModifiers());
            own += isStatic ? 0 : 1;
            if (!Modifier.isPrivate(field.getModifiers())) {
                seen.add(field.getName() + " " + field.getInt(null));
                Checks.due("modifiers of " + field.getName(), field.getModifiers(),
                    Modifier.PUBLIC | Modifier.STATIC | Modifier.FINAL);
            }
            Checks.due("a static field that may change: " + field.getName(),
                isStatic && !Modifier.isFinal(field.getModifiers()) ? 1 : 0, 0);
        }
        Checks.due("constants", seen.toString(), new TreeSet<>(Set.of(CONSTANTS)).toString());
        Checks.due("more than 20 fields", own > 20 ? own : 0, 0);
    }

    private static void classes() {
        Class<?> face = ColumnCasts.class;
        Checks.due("modifiers of the class", face.getModifiers(), Modifier.PUBLIC | Modifier.FINAL);
        Constructor<?>[] constructors = face.getDeclaredConstructors();
        Checks.due("constructors", constructors.length, 1);
        Checks.due("modifiers of the constructor", constructors[0].getModifiers(), Modifier.PUBLIC);
        Checks.due("parameters of the constructor", constructors[0].getParameterCount(), 0);
        for (Class<?> inside : face.getDeclaredClasses()) {
            Checks.due("static " + inside, Modifier.isStatic(inside.getModifiers()) ? 1 : 0, 1);
            Checks.due("open " + inside, inside.getModifiers() & (Modifier.PUBLIC | Modifier.PROTECTED), 0);
            Checks.due("static fields that may change in " + inside, changing(inside), 0);
        }
        Checks.due("more than 12 classes", face.getDeclaredClasses().length > 11 ? 1 : 0, 0);
    }

    private static int changing(Class<?> inside) {
        int changing = 0;
        for (Field field : inside.getDeclaredFields()) {
            changing += Modifier.isStatic(field.getModifiers()) && !Modifier.isFinal(field.getModifiers()) ? 1 : 0;
        }
        return changing;
    }

    public static void main(String[] args) throws IllegalAccessException {
        methods();
        fields();
        classes();
        Checks.end();
    }
}
