import java.lang.reflect.Constructor;
import java.lang.reflect.Field;
import java.lang.reflect.Method;
import java.lang.reflect.Modifier;
import java.util.Set;
import java.util.TreeSet;

/** The class has the members of the document's face, and no other that is not private. */
public final class FaceTest {
    private static final String[] FACE = {
        "int make(int,int,boolean)", "int link(int,int,int,int)", "int remove(int,int)",
        "int move(int,int,int,int)", "int find(int,int)", "int grow(int,int)", "int shrink(int,int)",
        "int size(int)", "int block(int,int)", "int extents(int)", "int valence(int)", "int records()",
        "int row(int,int)", "int overflows()", "int overflow(int,int)", "boolean unmount()",
        "boolean harm(int,int)", "int check()", "boolean mount()", "int mend()",
    };
    private static final String[] CONSTANTS = {
        "OFFLINE", "BAD", "MISSING", "EXISTS", "FULL", "NOT_EMPTY", "LOOP", "NO_SPACE",
    };

    public static void main(String[] args) throws IllegalAccessException {
        Checks checks = new Checks();
        int shape = CatalogVolume.class.getModifiers();
        checks.due("public final class", true, Modifier.isPublic(shape) && Modifier.isFinal(shape));
        methods(checks);
        constants(checks);
        Constructor<?>[] made = CatalogVolume.class.getDeclaredConstructors();
        checks.due("constructors", 1, made.length);
        checks.due("parameters of the constructor", 0, made[0].getParameterCount());
        checks.due("public constructor", true, Modifier.isPublic(made[0].getModifiers()));
        checks.close();
    }

    private static void methods(Checks checks) {
        Set<String> open = new TreeSet<>();
        Set<String> openNames = new TreeSet<>();
        for (Method method : CatalogVolume.class.getDeclaredMethods()) {
            if (Modifier.isPublic(method.getModifiers())) {
                open.add(signature(method));
                openNames.add(method.getName());
            }
        }
        checks.due("public methods " + open, true, open.equals(Set.of(FACE)));
        for (Method method : CatalogVolume.class.getDeclaredMethods()) {
            int shape = method.getModifiers();
            if (!Modifier.isPublic(shape)) {
                checks.due(method + " is private", true, Modifier.isPrivate(shape));
                checks.due(method + " has a name of its own", false, openNames.contains(method.getName()));
            }
        }
    }

    private static void constants(Checks checks) throws IllegalAccessException {
        Set<String> open = new TreeSet<>();
        for (Field field : CatalogVolume.class.getDeclaredFields()) {
            int shape = field.getModifiers();
            if (Modifier.isPublic(shape)) {
                open.add(field.getName());
            } else {
                checks.due(field + " is private", true, Modifier.isPrivate(shape));
            }
            if (Modifier.isStatic(shape)) {
                checks.due(field + " is final", true, Modifier.isFinal(shape));
            }
        }
        checks.due("public fields " + open, true, open.equals(Set.of(CONSTANTS)));
        for (int i = 0; i < CONSTANTS.length; i++) {
            checks.due(CONSTANTS[i], -1 - i, constant(CONSTANTS[i]));
        }
    }

    private static int constant(String name) throws IllegalAccessException {
        for (Field field : CatalogVolume.class.getDeclaredFields()) {
            if (field.getName().equals(name) && field.getType() == int.class) {
                return field.getInt(null);
            }
        }
        return 0;
    }

    private static String signature(Method method) {
        StringBuilder text = new StringBuilder();
        text.append(method.getReturnType().getName()).append(' ').append(method.getName()).append('(');
        for (Class<?> type : method.getParameterTypes()) {
            if (text.charAt(text.length() - 1) != '(') {
                text.append(',');
            }
            text.append(type.getName());
        }
        return text.append(')').toString();
    }
}
