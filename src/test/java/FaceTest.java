import java.lang.reflect.Constructor;
import java.lang.reflect.Field;
import java.lang.reflect.Method;
import java.lang.reflect.Modifier;
import java.util.Arrays;
import java.util.Map;
import java.util.Set;
import java.util.TreeMap;
import java.util.TreeSet;

/** The class shows the document's public face and nothing else. */
public final class FaceTest {
    private static final Check check = new Check();

    public static void main(String[] args) throws IllegalAccessException {
        Class<?> face = EventWindowsX.class;
        check.isTrue("public and final", Modifier.isPublic(face.getModifiers()) && Modifier.isFinal(face.getModifiers()));
        check.isTrue("no parent but Object", face.getSuperclass() == Object.class && face.getInterfaces().length == 0);
        check.due("nested classes", face.getDeclaredClasses().length, 0);
        constants(face);
        constructors(face);
        methods(face);
        check.end();
    }

    private static void constants(Class<?> face) throws IllegalAccessException {
        Map<String, Integer> due = new TreeMap<>();
        due.put("BAD", -1);
        due.put("DROPPED", -2);
        due.put("FULL", -3);
        due.put("EARLY", 1);
        due.put("ONTIME", 2);
        due.put("LATE", 3);
        due.put("RETRACT", 4);
        due.put("F_KIND", 0);
        due.put("F_KEY", 1);
        due.put("F_START", 2);
        due.put("F_END", 3);
        due.put("F_VALUE", 4);
        due.put("F_EVENTS", 5);
        due.put("MAX_KEY", 7);
        due.put("MAX_TIME", 1000000);
        due.put("MAX_VALUE", 1000);
        due.put("MAX_WATERMARK", 2100000);
        due.put("CAPACITY", 32);
        due.put("LOG", 64);
        due.put("MAX_GAP", 1000);
        due.put("MAX_LATENESS", 1000);
        Map<String, Integer> seen = new TreeMap<>();
        for (Field f : face.getDeclaredFields()) {
            if (Modifier.isPrivate(f.getModifiers())) {
                continue;
            }
            boolean constant = f.getType() == int.class && Modifier.isPublic(f.getModifiers())
                    && Modifier.isStatic(f.getModifiers()) && Modifier.isFinal(f.getModifiers());
            check.isTrue("a public constant: " + f, constant);
            if (constant) {
                seen.put(f.getName(), f.getInt(null));
            }
        }
        check.isTrue("constants " + seen, seen.equals(due));
    }

    private static void constructors(Class<?> face) {
        Constructor<?>[] all = face.getDeclaredConstructors();
        check.due("constructors", all.length, 1);
        check.isTrue("the public constructor of two ints", Modifier.isPublic(all[0].getModifiers())
                && Arrays.equals(all[0].getParameterTypes(), new Class<?>[] {int.class, int.class}));
    }

    private static void methods(Class<?> face) {
        Set<String> due = new TreeSet<>(Arrays.asList(
                "gap[]", "lateness[]", "addEvent[int, int, int]", "advance[int]", "early[]", "watermark[]",
                "storedEvents[]", "droppedCount[]", "recordCount[]", "recordField[int, int]", "sessionCount[]",
                "sessionField[int, int]", "paneCount[]", "paneField[int, int]"));
        Set<String> seen = new TreeSet<>();
        Set<String> names = new TreeSet<>();
        for (Method m : face.getDeclaredMethods()) {
            if (!Modifier.isPrivate(m.getModifiers())) {
                seen.add(m.getName() + Arrays.toString(m.getParameterTypes()));
                names.add(m.getName());
                check.isTrue("public, of the object, answers an int: " + m, Modifier.isPublic(m.getModifiers())
                        && !Modifier.isStatic(m.getModifiers()) && m.getReturnType() == int.class);
            }
        }
        check.isTrue("methods " + seen, seen.equals(due));
        for (Method m : face.getDeclaredMethods()) {
            if (Modifier.isPrivate(m.getModifiers())) {
                check.isTrue("no private method bears a public name: " + m, !names.contains(m.getName()));
            }
        }
    }
}
