import java.lang.reflect.Constructor;
import java.lang.reflect.Field;
import java.lang.reflect.Method;
import java.lang.reflect.Modifier;
import java.util.Arrays;
import java.util.Set;
import java.util.TreeSet;

/** The public face of the document and no more, what the fields may be, and calls with any arguments. */
public final class FaceTest {
    private static final Set<String> FACE = new TreeSet<>(Arrays.asList(
        "int trust 3", "int withdraw 3", "int pay 3", "int gather 3", "int clear 0", "int forget 0",
        "int trusted 2", "int position 1", "int most 2", "int spread 2", "int leastDebt 2",
        "int greatestDebt 2", "int debts 0", "int open 1"));
    private static final int[] ODD = {
        Integer.MIN_VALUE, Integer.MIN_VALUE + 1, -100000, -128, -7, -2, -1, 0, 1, 3, 6, 7, 8, 31, 32, 33,
        64, 126, 127, 128, 1000, 1001, 10000, 10001, Integer.MAX_VALUE - 1, Integer.MAX_VALUE,
    };

    private FaceTest() {
    }

    public static void main(String[] args) throws ReflectiveOperationException {
        theClass();
        theMethods();
        theFields();
        anyArguments();
        Check.end();
    }

    private static void theClass() {
        Class<?> c = CreditNetwork.class;
        Check.holds("public", Modifier.isPublic(c.getModifiers()));
        Check.holds("final", Modifier.isFinal(c.getModifiers()));
        Check.holds("no package", c.getPackageName().isEmpty());
        Check.due("nested classes", c.getDeclaredClasses().length, 0);
        Check.due("interfaces", c.getInterfaces().length, 0);
        Check.holds("no parent", c.getSuperclass() == Object.class);
        Check.due("constructors", c.getDeclaredConstructors().length, 1);
        Constructor<?> constructor = c.getDeclaredConstructors()[0];
        Check.holds("public constructor", Modifier.isPublic(constructor.getModifiers()));
        Check.due("its parameters", constructor.getParameterCount(), 0);
    }

    private static void theMethods() {
        Set<String> found = new TreeSet<>();
        Set<String> names = new TreeSet<>();
        for (String method : FACE) {
            names.add(method.split(" ")[1]);
        }
        for (Method method : CreditNetwork.class.getDeclaredMethods()) {
            Check.holds(method.getName() + ": at most seven parameters", method.getParameterCount() <= 7);
            if (Modifier.isPrivate(method.getModifiers())) {
                Check.holds(method.getName() + ": no public name", !names.contains(method.getName()));
                continue;
            }
            Check.holds(method.getName() + ": public, not static",
                Modifier.isPublic(method.getModifiers()) && !Modifier.isStatic(method.getModifiers()));
            for (Class<?> type : method.getParameterTypes()) {
                Check.holds(method.getName() + ": takes int", type == int.class);
            }
            found.add(method.getReturnType() + " " + method.getName() + " " + method.getParameterCount());
        }
        Check.holds("the face is " + found, found.equals(FACE));
    }

    private static void theFields() {
        Set<Class<?>> plain = Set.of(int.class, long.class, short.class, byte.class, char.class, boolean.class);
        for (Field field : CreditNetwork.class.getDeclaredFields()) {
            int is = field.getModifiers();
            Class<?> type = field.getType();
            Check.holds(field.getName() + ": private", Modifier.isPrivate(is));
            Check.holds(field.getName() + ": type", plain.contains(type.isArray() ? type.getComponentType() : type));
            if (Modifier.isStatic(is)) {
                Check.holds(field.getName() + ": constant",
                    Modifier.isFinal(is) && (type == int.class || type == long.class));
            }
        }
    }

    /** No call may throw, whatever it is given, and one with wrong members is refused. */
    private static void anyArguments() throws ReflectiveOperationException {
        for (Method method : CreditNetwork.class.getMethods()) {
            if (method.getDeclaringClass() == CreditNetwork.class) {
                tryAll(method);
            }
        }
    }

    private static void tryAll(Method method) throws ReflectiveOperationException {
        CreditNetwork x = new CreditNetwork();
        CreditNetwork worn = new CreditNetwork();
        int count = method.getParameterCount();
        int all = 1;
        for (int i = 0; i < count; i++) {
            all *= ODD.length;
        }
        for (int number = 0; number < all; number++) {
            Object[] given = new Object[count];
            int rest = number;
            for (int i = 0; i < count; i++) {
                given[i] = ODD[rest % ODD.length];
                rest /= ODD.length;
            }
            // What is answered after 512 calls is free, but even then no call may throw. A throw inside
            // comes out of invoke and ends the test.
            x = number % 512 == 0 ? new CreditNetwork() : x;
            int answer = (Integer) method.invoke(x, given);
            method.invoke(worn, given);
            if (count == 3) {
                int u = (Integer) given[0];
                int v = (Integer) given[1];
                boolean wrong = u < 0 || u > 6 || v < 0 || v > 6 || u == v;
                Check.holds(method.getName() + Arrays.toString(given), wrong == (answer == -1));
            }
        }
    }
}
