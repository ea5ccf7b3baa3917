import java.lang.reflect.Constructor;
import java.lang.reflect.Field;
import java.lang.reflect.Method;
import java.lang.reflect.Modifier;
import java.util.Arrays;
import java.util.Set;
import java.util.TreeSet;

/** The public face: just the constant, constructor and methods of the document. */
public final class FaceTest {
    private static final String[] FACE = {
        "int row(int, int, int)", "int set(int, int, long)", "int copy(int, int, int, int, int)",
        "long element(int, int)", "int holds(int)", "int show(int, int)", "int says(int, int)",
        "int point(int, int)", "int parish(int, int)", "int wants(int, int, boolean)",
        "int line(int, int, int)", "int drop(int, int, int)", "int cloud(int)", "int feed(int)",
        "int wipe()", "int sky()", "int pointOf(int, int)", "int parishOf(int, int)", "int crowd()",
        "int lineOf(int, int)", "int shift(int, int)", "int better(int, int)", "int share(int)",
        "int colours()", "int way(int, int)", "int pick(int)", "int laws(int)",
        "int whose(int, int, int)", "int seen(int, int)", "int nights(int)", "int give()",
        "int seed(int)", "int image()", "int back()", "int status(int)",
    };
    private static final Checks checks = new Checks("FaceTest");

    public static void main(String[] args) {
        Class<?> face = ConstellationsByLot.class;
        checks.due("NONE", ConstellationsByLot.NONE, -1);
        checks.due("the class", face.getModifiers(), Modifier.PUBLIC | Modifier.FINAL);
        checks.holds("no package", face.getPackageName().isEmpty());
        methods(face);
        fields(face);
        constructors(face);
        for (Class<?> inner : face.getDeclaredClasses()) {
            int is = inner.getModifiers();
            boolean fits = Modifier.isStatic(is) && !Modifier.isPublic(is) && !Modifier.isProtected(is);
            checks.holds(inner.getName() + " is static and not seen", fits);
            for (Method method : inner.getDeclaredMethods()) {
                boolean isCalls = Arrays.stream(FACE).anyMatch(call -> call.contains(" " + method.getName() + "("));
                checks.holds(method + " has a name of its own", !isCalls);
            }
        }
        checks.finish();
    }

    private static void methods(Class<?> face) {
        Set<String> due = new TreeSet<>(Arrays.asList(FACE));
        Set<String> names = new TreeSet<>();
        Set<String> got = new TreeSet<>();
        for (Method method : face.getDeclaredMethods()) {
            if (Modifier.isPrivate(method.getModifiers())) {
                continue;
            }
            String types = Arrays.toString(Arrays.stream(method.getParameterTypes())
                    .map(Class::getName).toArray());
            got.add(method.getReturnType() + " " + method.getName()
                    + "(" + types.substring(1, types.length() - 1) + ")");
            names.add(method.getName());
            checks.due(method.getName() + " is public", method.getModifiers(), Modifier.PUBLIC);
        }
        checks.holds("methods are " + got, got.equals(due));
        for (Method method : face.getDeclaredMethods()) {
            boolean isPrivate = Modifier.isPrivate(method.getModifiers());
            checks.holds(method + " has a name of its own", !isPrivate || !names.contains(method.getName()));
        }
    }

    private static void fields(Class<?> face) {
        for (Field field : face.getDeclaredFields()) {
            int is = field.getModifiers();
            boolean isNone = field.getName().equals("NONE");
            checks.holds(field + " is as it may be", isNone
                    ? is == (Modifier.PUBLIC | Modifier.STATIC | Modifier.FINAL)
                    : Modifier.isPrivate(is) && (!Modifier.isStatic(is) || Modifier.isFinal(is)));
        }
    }

    private static void constructors(Class<?> face) {
        Constructor<?>[] all = face.getDeclaredConstructors();
        checks.due("constructors", all.length, 1);
        checks.due("its parameters", all[0].getParameterCount(), 0);
        checks.due("it is public", all[0].getModifiers(), Modifier.PUBLIC);
    }
}
