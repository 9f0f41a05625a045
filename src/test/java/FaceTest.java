import java.lang.reflect.Constructor;
import java.lang.reflect.Field;
import java.lang.reflect.Method;
import java.lang.reflect.Modifier;
import java.util.Arrays;
import java.util.List;
import java.util.Map;
import java.util.Set;
import java.util.TreeMap;
import java.util.TreeSet;

/** The public face of the document, whole and without any other member that can be seen from outside. */
public final class FaceTest {
    private static final Checks is = new Checks();

    private static final List<String> METHODS = List.of(
        "int create(int, int, int)", "int write(int, int)", "int remove(int)", "int rename(int, int, int)",
        "int lookup(int, int)", "int inodeInfo(int, int)", "int getClock()", "int dump(int)",
        "int dumpInfo(int, int)", "int dumpEntry(int, int, int)", "int dumpDate(int)", "void restoreReset()",
        "int restoreApply(int)", "int restoreStamp()", "int restoredInfo(int, int)", "boolean restoreMatches()");

    public static void main(String[] args) throws IllegalAccessException {
        constants();
        methods();
        theClassItself();
        is.end();
    }

    private static void constants() throws IllegalAccessException {
        Map<String, Integer> want = new TreeMap<>();
        put(want, 0, 1, "KIND_FREE", "KIND_FILE", "KIND_DIR");
        put(want, 0, 1, "FIELD_KIND", "FIELD_PARENT", "FIELD_NAME", "FIELD_CONTENT", "FIELD_STAMP",
            "FIELD_CAPTURED");
        put(want, 0, 1, "DUMP_LEVEL", "DUMP_STAMP", "DUMP_BASE", "DUMP_CAPTURED");
        put(want, 0, -1, "OK", "ERR_KIND", "ERR_PARENT", "ERR_NAME", "ERR_EXISTS", "ERR_FULL", "ERR_INODE",
            "ERR_NOT_EMPTY", "ERR_CYCLE", "ERR_LEVEL", "ERR_NO_DUMP", "ERR_CHAIN");
        Map<String, Integer> got = new TreeMap<>();
        for (Field field : DumpLevels.class.getDeclaredFields()) {
            int how = field.getModifiers();
            if (Modifier.isStatic(how)) {
                is.due("static " + field.getName() + " is a final int", true,
                    Modifier.isFinal(how) && field.getType() == int.class);
            }
            if (!Modifier.isPrivate(how)) {
                is.due(field.getName() + " is public and static", true,
                    Modifier.isPublic(how) && Modifier.isStatic(how));
                got.put(field.getName(), field.getInt(null));
            }
        }
        is.same("constants", List.of(want.toString()), List.of(got.toString()));
    }

    private static void put(Map<String, Integer> map, int first, int step, String... names) {
        for (int k = 0; k < names.length; k++) {
            map.put(names[k], first + step * k);
        }
    }

    private static void methods() {
        Set<String> seen = new TreeSet<>();
        Set<String> hidden = new TreeSet<>();
        Set<String> names = new TreeSet<>();
        for (Method method : DumpLevels.class.getDeclaredMethods()) {
            if (Modifier.isPrivate(method.getModifiers())) {
                hidden.add(method.getName());
                continue;
            }
            names.add(method.getName());
            String types = Arrays.toString(method.getParameterTypes());
            seen.add(method.getReturnType() + " " + method.getName()
                + "(" + types.substring(1, types.length() - 1) + ")");
            is.due(method.getName() + " is public and not static", true,
                Modifier.isPublic(method.getModifiers()) && !Modifier.isStatic(method.getModifiers()));
        }
        is.same("methods", List.copyOf(new TreeSet<>(METHODS)), List.copyOf(seen));
        names.retainAll(hidden);
        is.due("private methods with a public name", 0, names.size());
    }

    private static void theClassItself() {
        int how = DumpLevels.class.getModifiers();
        is.due("the class is public and final", true, Modifier.isPublic(how) && Modifier.isFinal(how));
        is.due("nested classes", 0, DumpLevels.class.getDeclaredClasses().length);
        Constructor<?>[] made = DumpLevels.class.getDeclaredConstructors();
        is.due("constructors", 1, made.length);
        is.due("the constructor is public", true, Modifier.isPublic(made[0].getModifiers()));
        is.due("the constructor takes two ints", true,
            Arrays.equals(made[0].getParameterTypes(), new Class<?>[] {int.class, int.class}));
    }
}
