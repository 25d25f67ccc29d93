import java.io.IOException;
import java.lang.reflect.Constructor;
import java.lang.reflect.Field;
import java.lang.reflect.Method;
import java.lang.reflect.Modifier;
import java.nio.file.Files;
import java.nio.file.Path;
import java.util.Arrays;
import java.util.Set;
import java.util.TreeSet;
import java.util.regex.Matcher;
import java.util.regex.Pattern;

/** The public face is the document's and no more; run from the project's folder. */
public final class FaceTest {
    private static final Path SOURCE = Path.of("src/main/java/BinDesk.java");

    private static final Set<String> FACE = Set.of(
        "BinDesk(int)", "int NONE", "int FULL",
        "int add(int)", "boolean remove(int)", "boolean resize(int, int)", "boolean setSize(int)",
        "int size()", "int items()", "int sizeOf(int)", "int least()", "int binOf(int)",
        "int leastWithout(int)", "int spare()", "int sizeFor(int)", "boolean together(int, int)");

    // Words that the rules 2 to 6 and 11 leave no use for; 'new' is looked at apart.
    private static final Set<String> NO_USE = Set.of(
        "import", "package", "float", "double", "null", "throw", "throws", "try", "catch", "finally",
        "synchronized", "assert", "instanceof", "interface", "enum", "record", "protected", "extends",
        "implements", "native", "var", "super", "volatile", "transient",
        "String", "Math", "Integer", "Long", "System", "Arrays", "Object", "Thread");

    private static int wrong = 0;

    public static void main(String[] args) throws IOException {
        publicFace();
        privateRest();
        words();
        System.out.println(wrong == 0 ? "the face is as due" : wrong + " faults");
        if (wrong != 0) {
            System.exit(1);
        }
    }

    private static void publicFace() {
        Set<String> seen = new TreeSet<>();
        for (Constructor<?> made : BinDesk.class.getDeclaredConstructors()) {
            if (!Modifier.isPrivate(made.getModifiers())) {
                seen.add("BinDesk(" + types(made.getParameterTypes()) + ")");
            }
        }
        for (Field field : BinDesk.class.getDeclaredFields()) {
            if (!Modifier.isPrivate(field.getModifiers())) {
                seen.add(field.getType().getName() + " " + field.getName());
                due(field + " is public static final",
                    field.getModifiers() == (Modifier.PUBLIC | Modifier.STATIC | Modifier.FINAL));
            }
        }
        for (Method method : BinDesk.class.getDeclaredMethods()) {
            if (!Modifier.isPrivate(method.getModifiers())) {
                seen.add(method.getReturnType().getName() + " " + method.getName()
                    + "(" + types(method.getParameterTypes()) + ")");
                due(method + " is public alone", method.getModifiers() == Modifier.PUBLIC);
            }
        }
        due("the public face is " + new TreeSet<>(FACE) + ", seen " + seen, seen.equals(FACE));
        due("the class is public and final",
            BinDesk.class.getModifiers() == (Modifier.PUBLIC | Modifier.FINAL));
        due("no nested class", BinDesk.class.getDeclaredClasses().length == 0);
    }

    private static void privateRest() {
        Set<String> publicNames = new TreeSet<>();
        for (Method method : BinDesk.class.getMethods()) {
            publicNames.add(method.getName());
        }
        for (Method method : BinDesk.class.getDeclaredMethods()) {
            due(method + " has at most seven parameters", method.getParameterCount() <= 7);
            due(method + " bears no public name",
                !Modifier.isPrivate(method.getModifiers()) || !publicNames.contains(method.getName()));
            due(method + " answers no array", !method.getReturnType().isArray());
        }
        Set<Class<?>> numbers = Set.of(int.class, long.class, short.class, byte.class, char.class, boolean.class);
        for (Field field : BinDesk.class.getDeclaredFields()) {
            Class<?> type = field.getType().isArray() ? field.getType().getComponentType() : field.getType();
            due(field + " is of a type of rule 2", numbers.contains(type));
            due(field + " is no static array",
                !Modifier.isStatic(field.getModifiers()) || !field.getType().isArray());
        }
    }

    private static void words() throws IOException {
        String code = Files.readString(SOURCE).replaceAll("(?s)/\\*.*?\\*/", " ").replaceAll("//[^\n]*", " ");
        Matcher word = Pattern.compile("[A-Za-z_]\\w*").matcher(code);
        while (word.find()) {
            due("the word " + word.group() + " has no use", !NO_USE.contains(word.group()));
        }
        due("no lambda, method reference, annotation or text",
            !code.contains("->") && !code.contains("::") && !code.contains("@") && !code.contains("\""));
        Matcher made = Pattern.compile("[^\n]*\\bnew\\b[^\n]*").matcher(code);
        while (made.find()) {
            due("an array made in a field's initialiser: " + made.group(),
                made.group().matches("    private final int\\[\\] \\w+ = new int\\[MOST_ITEMS\\];"));
        }
    }

    private static String types(Class<?>[] types) {
        return String.join(", ", Arrays.stream(types).map(Class::getName).toList());
    }

    private static void due(String what, boolean holds) {
        if (!holds) {
            wrong++;
            System.out.println("does not hold: " + what);
        }
    }
}
