import java.lang.reflect.Constructor;
import java.lang.reflect.Field;
import java.lang.reflect.Method;
import java.lang.reflect.Modifier;
import java.util.Arrays;
import java.util.Set;
import java.util.TreeSet;

/** The public face is the document's and no more (rule 1 of LANGUAGE.md). */
public final class FaceTest {
    private static final Set<String> FACE = Set.of(
        "BinDesk(int)", "int NONE", "int FULL",
        "int add(int)", "boolean remove(int)", "boolean resize(int, int)", "boolean setSize(int)",
        "int size()", "int items()", "int sizeOf(int)", "int least()", "int binOf(int)",
        "int leastWithout(int)", "int spare()", "int sizeFor(int)", "boolean together(int, int)");

    public static void main(String[] args) {
        Check.of("the public face");
        theClass();
        Set<String> seen = new TreeSet<>();
        constructors(seen);
        constants(seen);
        methods(seen);
        Check.due("all that is not private", seen, FACE);
        privateNames();
        Check.end();
    }

    private static void theClass() {
        Check.holds("the class is public and final",
            BinDesk.class.getModifiers() == (Modifier.PUBLIC | Modifier.FINAL));
        Check.holds("no class is nested in it", BinDesk.class.getDeclaredClasses().length == 0);
    }

    private static void constructors(Set<String> seen) {
        for (Constructor<?> made : BinDesk.class.getDeclaredConstructors()) {
            if (!Modifier.isPrivate(made.getModifiers())) {
                seen.add("BinDesk(" + types(made.getParameterTypes()) + ")");
                Check.holds(made + " is public", made.getModifiers() == Modifier.PUBLIC);
            }
        }
    }

    private static void constants(Set<String> seen) {
        for (Field field : BinDesk.class.getDeclaredFields()) {
            if (!Modifier.isPrivate(field.getModifiers())) {
                seen.add(field.getType().getName() + " " + field.getName());
                Check.holds(field + " is public static final",
                    field.getModifiers() == (Modifier.PUBLIC | Modifier.STATIC | Modifier.FINAL));
            }
        }
    }

    private static void methods(Set<String> seen) {
        for (Method method : BinDesk.class.getDeclaredMethods()) {
            if (!Modifier.isPrivate(method.getModifiers())) {
                seen.add(method.getReturnType().getName() + " " + method.getName()
                    + "(" + types(method.getParameterTypes()) + ")");
                Check.holds(method + " is public alone", method.getModifiers() == Modifier.PUBLIC);
            }
        }
    }

    private static void privateNames() {
        Set<String> publicNames = new TreeSet<>();
        for (Method method : BinDesk.class.getMethods()) {
            publicNames.add(method.getName());
        }
        for (Method method : BinDesk.class.getDeclaredMethods()) {
            Check.holds(method + " bears no public name",
                !Modifier.isPrivate(method.getModifiers()) || !publicNames.contains(method.getName()));
        }
    }

    private static String types(Class<?>[] types) {
        return String.join(", ", Arrays.stream(types).map(Class::getName).toList());
    }
}
