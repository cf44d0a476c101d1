import java.lang.reflect.Constructor;
import java.lang.reflect.Field;
import java.lang.reflect.Method;
import java.lang.reflect.Modifier;
import java.util.Set;
import java.util.TreeSet;

/** The public face of the document, and what LANGUAGE.md says of members (rules 1, 2 and 5). */
public final class FaceTest {
    private static final Set<String> FACE = Set.of(
        "add 2", "multiply 2", "divide 2", "root 1", "parse 2",
        "digits 1", "exponent 1", "compare 2", "floor 1");

    private static boolean allInts(Method method) {
        boolean all = method.getReturnType() == int.class;
        for (Class<?> type : method.getParameterTypes()) {
            all = all && type == int.class;
        }
        return all;
    }

    private static void methods() {
        Set<String> open = new TreeSet<>();
        Set<String> openNames = new TreeSet<>();
        for (Method method : HalfFloat.class.getDeclaredMethods()) {
            if (!Modifier.isPrivate(method.getModifiers())) {
                open.add(method.getName() + " " + method.getParameterCount());
                openNames.add(method.getName());
                Check.holds(Modifier.isPublic(method.getModifiers()), method + " is public");
                Check.holds(!Modifier.isStatic(method.getModifiers()), method + " is not static");
                Check.holds(allInts(method), method + " is over int");
            }
        }
        Check.holds(open.equals(FACE), "the open methods are those of the document: " + open);
        for (Method method : HalfFloat.class.getDeclaredMethods()) {
            boolean hidden = Modifier.isPrivate(method.getModifiers());
            Check.holds(!hidden || !openNames.contains(method.getName()), method + " has its own name");
            Check.holds(method.getParameterCount() <= 7, method + " takes at most seven");
        }
    }

    private static void fields() {
        for (Field field : HalfFloat.class.getDeclaredFields()) {
            Check.holds(Modifier.isPrivate(field.getModifiers()), field + " is private");
            if (Modifier.isStatic(field.getModifiers())) {
                boolean whole = field.getType() == int.class || field.getType() == long.class;
                Check.holds(whole, field + " is int or long");
                Check.holds(Modifier.isFinal(field.getModifiers()), field + " is a constant");
            }
        }
    }

    public static void main(String[] args) {
        int modifiers = HalfFloat.class.getModifiers();
        Check.holds(Modifier.isPublic(modifiers) && Modifier.isFinal(modifiers), "public and final");
        Check.holds(HalfFloat.class.getSuperclass() == Object.class, "no class above");
        Check.holds(HalfFloat.class.getInterfaces().length == 0, "no interface");
        Check.holds(HalfFloat.class.getDeclaredClasses().length == 0, "no class inside");
        Constructor<?>[] constructors = HalfFloat.class.getDeclaredConstructors();
        Check.due(constructors.length, 1, "constructors");
        Check.due(constructors[0].getParameterCount(), 0, "parameters of the constructor");
        Check.holds(Modifier.isPublic(constructors[0].getModifiers()), "the constructor is public");
        methods();
        fields();
        Check.finish();
    }
}
