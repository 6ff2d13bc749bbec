import java.lang.reflect.Constructor;
import java.lang.reflect.Field;
import java.lang.reflect.Method;
import java.lang.reflect.Modifier;
import java.util.Set;
import java.util.TreeSet;

/** The public face of the document, and what LANGUAGE.md says of members and types. */
public final class FaceTest {
    private static final Set<String> METHODS = Set.of(
        "link 3", "unlink 1", "change 3", "look 2", "room 2", "want 4", "release 1", "improve 1", "state 1",
        "node 2", "cost 1", "over 1", "quote 3", "widest 2", "flow 2", "bridge 1", "groups 0");
    private static final Set<String> CONSTANTS = Set.of("BAD", "NONE", "EXISTS");
    private static int wrong = 0;

    private static void must(boolean holds, String what) {
        if (!holds) {
            wrong++;
            System.out.println("not so: " + what);
        }
    }

    public static void main(String[] args) {
        Class<?> type = TunnelNetwork.class;
        must(type.getModifiers() == (Modifier.PUBLIC | Modifier.FINAL), "the class is public and final");
        must(type.getDeclaredClasses().length == 0, "no nested class");
        must(type.getInterfaces().length == 0 && type.getSuperclass() == Object.class, "no other type above it");
        constructors(type);
        methods(type);
        fields(type);
        System.out.println(wrong == 0 ? "the face is as due" : wrong + " things are not as due");
        if (wrong != 0) {
            System.exit(1);
        }
    }

    private static void constructors(Class<?> type) {
        Constructor<?>[] all = type.getDeclaredConstructors();
        must(all.length == 1 && all[0].getParameterCount() == 0 && Modifier.isPublic(all[0].getModifiers()),
            "one public constructor without parameters");
    }

    private static void methods(Class<?> type) {
        Set<String> found = new TreeSet<>();
        for (Method method : type.getDeclaredMethods()) {
            must(method.getParameterCount() <= 7, method.getName() + " has at most seven parameters");
            if (Modifier.isPrivate(method.getModifiers())) {
                must(METHODS.stream().noneMatch(m -> m.startsWith(method.getName() + " ")),
                    method.getName() + " has a name of its own");
                continue;
            }
            must(method.getModifiers() == Modifier.PUBLIC, method.getName() + " is public alone");
            must(method.getReturnType() == int.class, method.getName() + " answers an int");
            for (Class<?> parameter : method.getParameterTypes()) {
                must(parameter == int.class, method.getName() + " takes ints");
            }
            found.add(method.getName() + " " + method.getParameterCount());
        }
        must(found.equals(new TreeSet<>(METHODS)), "the public methods are those of the document: " + found);
    }

    private static void fields(Class<?> type) {
        Set<String> found = new TreeSet<>();
        int held = 0;
        for (Field field : type.getDeclaredFields()) {
            int modifiers = field.getModifiers();
            Class<?> kind = field.getType();
            if (Modifier.isStatic(modifiers)) {
                must(Modifier.isFinal(modifiers) && (kind == int.class || kind == long.class),
                    field.getName() + " is a constant of int or long");
            } else {
                held++;
                must(kind.isPrimitive() || kind.getComponentType().isPrimitive(), field.getName() + " holds numbers");
            }
            if (!Modifier.isPrivate(modifiers)) {
                must(modifiers == (Modifier.PUBLIC | Modifier.STATIC | Modifier.FINAL) && kind == int.class,
                    field.getName() + " is a public constant");
                found.add(field.getName());
            }
        }
        must(held <= 40, "at most forty fields");
        must(found.equals(new TreeSet<>(CONSTANTS)), "the public constants are those of the document: " + found);
    }
}
