import java.lang.reflect.Constructor;
import java.lang.reflect.Field;
import java.lang.reflect.Method;
import java.lang.reflect.Modifier;
import java.util.Arrays;
import java.util.TreeSet;

/** The public face, and rules 1, 2, 5 and 11 of the language, as far as reflection sees them. */
final class FaceTest {
    private static final String[] METHODS = {
        "int account(int, int, int)", "int addTenant(int)", "int borrow(int, int, int)",
        "int clearText()", "int count(int)", "int demand(int)", "int demanded(int, int)",
        "int exchange(int, int, int, int)", "int fault()", "int grant()", "int grantAll()",
        "int granted(int, int)", "int pass(int)", "int plan(int)", "int release(int)",
        "int repay(int, int, int)", "int resource(int, int)", "int ruin(int)",
        "int setLimit(int, int, int)", "int setResource(int, boolean, int)", "int setRest(int)",
        "int setWeight(int, int)", "int tenant(int, int)", "int type(int)", "int undo()",
        "int withdraw(int)", "int worth(int, int)", "long digest()"};

    public static void main(String[] args) {
        Check.due("a public class", Modifier.isPublic(LimitBank.class.getModifiers()) ? 1 : 0, 1);
        Check.due("a final class", Modifier.isFinal(LimitBank.class.getModifiers()) ? 1 : 0, 1);
        methods();
        fields();
        constructors();
        classesInside();
        Check.end("FaceTest");
    }

    private static String signature(Method method) {
        String parameters = Arrays.toString(
                Arrays.stream(method.getParameterTypes()).map(Class::getSimpleName).toArray());
        return method.getReturnType().getSimpleName() + " " + method.getName()
                + "(" + parameters.substring(1, parameters.length() - 1) + ")";
    }

    private static void methods() {
        TreeSet<String> open = new TreeSet<>();
        TreeSet<String> openNames = new TreeSet<>();
        for (Method method : LimitBank.class.getDeclaredMethods()) {
            if (!Modifier.isPrivate(method.getModifiers())) {
                open.add(signature(method));
                openNames.add(method.getName());
                Check.due(method + " is public and not static",
                        method.getModifiers(), Modifier.PUBLIC);
            }
        }
        Check.due("the methods " + open, open.equals(new TreeSet<>(Arrays.asList(METHODS)))
                ? 1 : 0, 1);
        for (Class<?> each : allClasses()) {
            for (Method method : each.getDeclaredMethods()) {
                boolean hides = openNames.contains(method.getName())
                        && (each != LimitBank.class || Modifier.isPrivate(method.getModifiers()));
                Check.due(method + " bears a name of the face", hides ? 1 : 0, 0);
                Check.due(method + " has at most seven parameters",
                        method.getParameterCount() <= 7 ? 1 : 0, 1);
            }
        }
    }

    private static void fields() {
        TreeSet<String> open = new TreeSet<>();
        for (Field field : LimitBank.class.getDeclaredFields()) {
            if (!Modifier.isPrivate(field.getModifiers())) {
                open.add(field.getName());
                Check.due(field + " is a public constant", field.getModifiers(),
                        Modifier.PUBLIC | Modifier.STATIC | Modifier.FINAL);
            }
        }
        Check.due("the constants " + open, open.equals(
                new TreeSet<>(Arrays.asList("BAD", "STATE", "FULL", "NONE"))) ? 1 : 0, 1);
        for (Class<?> each : allClasses()) {
            for (Field field : each.getDeclaredFields()) {
                boolean changes = Modifier.isStatic(field.getModifiers())
                        && !Modifier.isFinal(field.getModifiers());
                Check.due(field + " is static and changes", changes ? 1 : 0, 0);
            }
        }
    }

    private static void constructors() {
        Constructor<?>[] all = LimitBank.class.getDeclaredConstructors();
        Check.due("constructors", all.length, 1);
        Check.due("a public constructor", all[0].getModifiers(), Modifier.PUBLIC);
        Check.due("without parameters", all[0].getParameterCount(), 0);
    }

    private static void classesInside() {
        Class<?>[] inside = LimitBank.class.getDeclaredClasses();
        Check.due("at most twelve classes", inside.length < 12 ? 1 : 0, 1);
        for (Class<?> each : inside) {
            int open = Modifier.PUBLIC | Modifier.PROTECTED;
            Check.due(each + " is not open", each.getModifiers() & open, 0);
            Check.due(each + " is static", Modifier.isStatic(each.getModifiers()) ? 1 : 0, 1);
        }
    }

    private static Class<?>[] allClasses() {
        Class<?>[] inside = LimitBank.class.getDeclaredClasses();
        Class<?>[] all = Arrays.copyOf(inside, inside.length + 1);
        all[inside.length] = LimitBank.class;
        return all;
    }
}
