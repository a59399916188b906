import java.lang.reflect.Constructor;
import java.lang.reflect.Field;
import java.lang.reflect.Method;
import java.lang.reflect.Modifier;
import java.util.Arrays;
import java.util.List;
import java.util.Set;
import java.util.TreeSet;

/** The public face is the document's, no more and no less, and the members keep to LANGUAGE.md where that shows. */
public final class FaceTest {
    private static final Set<String> FACE = Set.of(
            "public static final int LOAD", "public static final int STORE", "public static final int OK",
            "public static final int NO_OP", "public static final int BAD_KIND",
            "public static final int BAD_ARGUMENT", "public static final int ALREADY",
            "public static final int FULL", "public static final int NO_ADDRESS",
            "public static final int PREDICTED", "public static final int NO_DATA",
            "public static final int NOT_READY", "public static final int EMPTY",
            "public static final int STORE_DONE",
            "public LoadStoreQueue(int, int, int)",
            "public int enter(int, int, int)", "public int setAddress(int, int)", "public int setData(int, int)",
            "public int execute(int)", "public int executeReady()", "public long commit()", "public int drain()",
            "public int discard(int)", "public void clearSets()", "public int count()", "public int pending()",
            "public int describe(int)", "public int address(int)", "public long value(int)",
            "public int memory(int, int)", "public int sameSet(int, int)");

    private static final List<Class<?>> NUMBERS = List.of(
            int.class, long.class, short.class, byte.class, char.class, boolean.class);

    public static void main(String[] args) {
        Checks c = new Checks();
        Class<?> k = LoadStoreQueue.class;
        Set<String> open = new TreeSet<>();
        Set<String> openNames = new TreeSet<>();
        for (Field f : k.getDeclaredFields()) {
            if (!Modifier.isPrivate(f.getModifiers())) {
                open.add(Modifier.toString(f.getModifiers()) + " " + f.getType() + " " + f.getName());
            }
        }
        for (Constructor<?> made : k.getDeclaredConstructors()) {
            open.add(Modifier.toString(made.getModifiers()) + " " + made.getName() + types(made.getParameterTypes()));
        }
        for (Method m : k.getDeclaredMethods()) {
            if (!Modifier.isPrivate(m.getModifiers())) {
                openNames.add(m.getName());
                open.add(Modifier.toString(m.getModifiers()) + " " + m.getReturnType() + " " + m.getName()
                        + types(m.getParameterTypes()));
            }
        }
        c.same("the face", open.toString(), new TreeSet<>(FACE).toString());
        c.due("public final", k.getModifiers(), Modifier.PUBLIC | Modifier.FINAL);
        c.due("nested classes", k.getDeclaredClasses().length, 0);
        c.same("superclass", k.getSuperclass().getName(), "java.lang.Object");
        c.due("interfaces", k.getInterfaces().length, 0);
        language(c, k, openNames);
        c.end();
    }

    private static void language(Checks c, Class<?> k, Set<String> openNames) {
        int fields = 0;
        for (Field f : k.getDeclaredFields()) {
            Class<?> type = f.getType();
            boolean isStatic = Modifier.isStatic(f.getModifiers());
            fields += isStatic ? 0 : 1;
            boolean allowed = isStatic
                    ? Modifier.isFinal(f.getModifiers()) && (type == int.class || type == long.class)
                    : NUMBERS.contains(type.isArray() ? type.getComponentType() : type);
            c.due("field " + f.getName() + " is allowed (1 for yes)", allowed ? 1 : 0, 1);
        }
        c.due("at most forty fields (1 for yes)", fields <= 40 ? 1 : 0, 1);
        for (Method m : k.getDeclaredMethods()) {
            boolean allowed = m.getParameterCount() <= 7 && !m.getReturnType().isArray()
                    && !(Modifier.isPrivate(m.getModifiers()) && openNames.contains(m.getName()));
            c.due("method " + m.getName() + " is allowed (1 for yes)", allowed ? 1 : 0, 1);
        }
    }

    private static String types(Class<?>[] types) {
        String text = Arrays.toString(types);
        return "(" + text.substring(1, text.length() - 1) + ")";
    }
}
