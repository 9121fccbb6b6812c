import java.lang.reflect.Constructor;
import java.lang.reflect.Field;
import java.lang.reflect.Method;
import java.lang.reflect.Modifier;
import java.util.Map;
import java.util.Set;
import java.util.TreeMap;
import java.util.TreeSet;

/** The public face of the document, and the members that LANGUAGE.md leaves beside it. */
public final class FaceTest {
    private static final Checks checks = new Checks();
    private static final Map<String, Integer> FACE = new TreeMap<>(Map.of(
            "price", 3, "bar", 2, "plans", 0, "cost", 1, "plan", 1,
            "task", 2, "within", 1, "rank", 1, "cheapestWith", 2));
    private static final Set<Class<?>> TYPES = Set.of(
            int.class, long.class, short.class, byte.class, char.class, boolean.class);

    public static void main(String[] args) {
        checkClass();
        checkMethods();
        checkFields();
        checks.end("FaceTest");
    }

    private static void checkClass() {
        Class<?> type = RankedPairs.class;
        checks.dueTrue("public class", Modifier.isPublic(type.getModifiers()));
        checks.dueTrue("final class", Modifier.isFinal(type.getModifiers()));
        checks.dueTrue("no superclass but Object", type.getSuperclass() == Object.class);
        checks.due("interfaces", 0, type.getInterfaces().length);
        checks.due("nested classes", 0, type.getDeclaredClasses().length);
        Constructor<?>[] constructors = type.getDeclaredConstructors();
        checks.due("constructors", 1, constructors.length);
        checks.due("constructor parameters", 0, constructors[0].getParameterCount());
        checks.dueTrue("public constructor", Modifier.isPublic(constructors[0].getModifiers()));
    }

    private static void checkMethods() {
        Set<String> seen = new TreeSet<>();
        for (Method method : RankedPairs.class.getDeclaredMethods()) {
            String name = method.getName();
            if (!FACE.containsKey(name)) {
                checks.dueTrue(name + " private", Modifier.isPrivate(method.getModifiers()));
                continue;
            }
            checks.dueTrue(name + " declared once", seen.add(name));
            checks.due(name + " modifiers", Modifier.PUBLIC, method.getModifiers());
            checks.dueTrue(name + " answers int", method.getReturnType() == int.class);
            checks.due(name + " parameters", FACE.get(name), method.getParameterCount());
            for (Class<?> parameter : method.getParameterTypes()) {
                checks.dueTrue(name + " takes ints", parameter == int.class);
            }
        }
        checks.dueTrue("every method of the face is there", seen.equals(FACE.keySet()));
    }

    private static void checkFields() {
        for (Field field : RankedPairs.class.getDeclaredFields()) {
            String name = field.getName();
            Class<?> type = field.getType();
            checks.dueTrue(name + " private", Modifier.isPrivate(field.getModifiers()));
            if (Modifier.isStatic(field.getModifiers())) {
                checks.dueTrue(name + " constant", Modifier.isFinal(field.getModifiers()));
                checks.dueTrue(name + " int or long", type == int.class || type == long.class);
            } else {
                Class<?> element = type.isArray() ? type.getComponentType() : type;
                checks.dueTrue(name + " of an allowed type", TYPES.contains(element));
            }
        }
    }
}
