import com.sun.source.tree.ArrayAccessTree;
import com.sun.source.tree.ArrayTypeTree;
import com.sun.source.tree.AssignmentTree;
import com.sun.source.tree.BinaryTree;
import com.sun.source.tree.ClassTree;
import com.sun.source.tree.CompilationUnitTree;
import com.sun.source.tree.CompoundAssignmentTree;
import com.sun.source.tree.ExpressionStatementTree;
import com.sun.source.tree.ExpressionTree;
import com.sun.source.tree.ForLoopTree;
import com.sun.source.tree.IdentifierTree;
import com.sun.source.tree.MethodInvocationTree;
import com.sun.source.tree.MethodTree;
import com.sun.source.tree.ModifiersTree;
import com.sun.source.tree.NewArrayTree;
import com.sun.source.tree.PrimitiveTypeTree;
import com.sun.source.tree.Tree;
import com.sun.source.tree.Tree.Kind;
import com.sun.source.tree.UnaryTree;
import com.sun.source.tree.VariableTree;
import com.sun.source.util.JavacTask;
import com.sun.source.util.SourcePositions;
import com.sun.source.util.TreePath;
import com.sun.source.util.TreePathScanner;
import com.sun.source.util.TreeScanner;
import com.sun.source.util.Trees;
import java.io.IOException;
import java.nio.file.Path;
import java.util.ArrayList;
import java.util.HashSet;
import java.util.List;
import java.util.Map;
import java.util.Set;
import java.util.TreeMap;
import java.util.TreeSet;
import javax.lang.model.element.Modifier;
import javax.lang.model.type.TypeKind;
import javax.tools.JavaCompiler;
import javax.tools.ToolProvider;

/**
 * The source against the rules of LANGUAGE.md, by the compiler's own reading of it; run from the
 * project's folder. It is narrower than the rules where the class needs no more (only for-loops, no
 * name for an array but its field's), and says nothing of rule 7, which the runs of calls are for.
 */
public final class LanguageTest {
    private static final Path SOURCE = Path.of("src/main/java/BinDesk.java");

    private static final Set<TypeKind> TYPES = Set.of(
        TypeKind.INT, TypeKind.LONG, TypeKind.SHORT, TypeKind.BYTE, TypeKind.CHAR, TypeKind.BOOLEAN);

    // Beside the operators and the number literals, which isPlain knows.
    private static final Set<Kind> PLAIN = Set.of(
        Kind.COMPILATION_UNIT, Kind.MODIFIERS, Kind.VARIABLE, Kind.METHOD, Kind.BLOCK,
        Kind.PRIMITIVE_TYPE, Kind.ARRAY_TYPE, Kind.NEW_ARRAY, Kind.ARRAY_ACCESS, Kind.IDENTIFIER,
        Kind.METHOD_INVOCATION, Kind.PARENTHESIZED, Kind.CONDITIONAL_EXPRESSION, Kind.ASSIGNMENT,
        Kind.EXPRESSION_STATEMENT, Kind.IF, Kind.FOR_LOOP, Kind.BREAK, Kind.CONTINUE, Kind.RETURN);

    private static final Set<Kind> LITERALS = Set.of(
        Kind.INT_LITERAL, Kind.LONG_LITERAL, Kind.CHAR_LITERAL, Kind.BOOLEAN_LITERAL);

    private static final Set<Modifier> MODIFIERS = Set.of(
        Modifier.PUBLIC, Modifier.PRIVATE, Modifier.STATIC, Modifier.FINAL);

    private static final Set<Kind> STEPS = Set.of(
        Kind.PREFIX_INCREMENT, Kind.PREFIX_DECREMENT, Kind.POSTFIX_INCREMENT, Kind.POSTFIX_DECREMENT);

    private static CompilationUnitTree file;
    private static ClassTree desk;
    private static SourcePositions positions;
    private static final Set<String> constants = new HashSet<>();
    private static final Set<String> arrays = new HashSet<>();
    private static final Map<String, MethodTree> methods = new TreeMap<>();

    public static void main(String[] args) throws IOException {
        readSource();
        oneClass();
        fields();
        everyPlace();
        callsEnd();
        methodHeads();
        Check.end();
    }

    private static void readSource() throws IOException {
        JavaCompiler compiler = ToolProvider.getSystemJavaCompiler();
        var files = compiler.getStandardFileManager(null, null, null);
        var task = (JavacTask) compiler.getTask(null, files, null, null, null, files.getJavaFileObjects(SOURCE));
        file = task.parse().iterator().next();
        desk = (ClassTree) file.getTypeDecls().get(0);
        positions = Trees.instance(task).getSourcePositions();
    }

    private static void oneClass() {
        Check.of("rule 1");
        Check.holds("one class in the file", file.getTypeDecls().size() == 1);
        Check.holds("no package line", file.getPackage() == null);
        Check.holds("no class above it", desk.getExtendsClause() == null && desk.getImplementsClause().isEmpty());
        for (Tree member : desk.getMembers()) {
            Check.holds(at(member) + " a field or a method",
                member instanceof VariableTree || member instanceof MethodTree);
            if (member instanceof MethodTree method) {
                Check.holds(at(member) + " the only method of its name",
                    methods.put(method.getName().toString(), method) == null);
            }
        }
        Check.of("rule 3");
        Check.holds("nothing is imported", file.getImports().isEmpty());
    }

    private static void fields() {
        int count = 0;
        for (Tree member : desk.getMembers()) {
            if (member instanceof VariableTree field) {
                String name = field.getName().toString();
                boolean isArray = field.getType() instanceof ArrayTypeTree;
                if (field.getModifiers().getFlags().contains(Modifier.STATIC)) {
                    Check.of("rule 5");
                    Check.holds(at(field) + " a constant of int or long", isConstant(field));
                    constants.add(name);
                } else {
                    count++;
                }
                if (isArray) {
                    Check.of("rule 4");
                    Check.holds(at(field) + " made once", field.getModifiers().getFlags().contains(Modifier.FINAL)
                        && field.getInitializer() instanceof NewArrayTree);
                    arrays.add(name);
                }
            }
        }
        Check.of("rule 10");
        Check.holds("at most forty fields, seen " + count, count <= 40);
    }

    private static boolean isConstant(VariableTree field) {
        boolean ofNumber = field.getType() instanceof PrimitiveTypeTree type
            && (type.getPrimitiveTypeKind() == TypeKind.INT || type.getPrimitiveTypeKind() == TypeKind.LONG);
        ExpressionTree value = field.getInitializer();
        if (value instanceof UnaryTree unary && unary.getKind() == Kind.UNARY_MINUS) {
            value = unary.getExpression();
        }
        return ofNumber && field.getModifiers().getFlags().contains(Modifier.FINAL)
            && value != null && LITERALS.contains(value.getKind());
    }

    private static void everyPlace() {
        new TreePathScanner<Void, Void>() {
            @Override
            public Void scan(Tree tree, Void nothing) {
                if (tree != null) {
                    Check.of("rules 2, 3, 6");
                    Check.holds(at(tree) + " " + tree.getKind() + " has a use", isPlain(tree));
                }
                return super.scan(tree, nothing);
            }

            @Override
            public Void visitModifiers(ModifiersTree modifiers, Void nothing) {
                Check.of("rules 6, 11");
                Check.holds(at(modifiers) + " " + modifiers.getFlags() + " have a use",
                    MODIFIERS.containsAll(modifiers.getFlags()));
                return super.visitModifiers(modifiers, nothing);
            }

            @Override
            public Void visitVariable(VariableTree variable, Void nothing) {
                boolean isField = getCurrentPath().getParentPath().getLeaf() == desk;
                Check.of("rule 2");
                Check.holds(at(variable) + " of a type that is allowed", isNumber(variable.getType())
                    || isField && variable.getType() instanceof ArrayTypeTree type && isNumber(type.getType()));
                return super.visitVariable(variable, nothing);
            }

            @Override
            public Void visitNewArray(NewArrayTree made, Void nothing) {
                TreePath holder = getCurrentPath().getParentPath();
                Check.of("rule 4");
                Check.holds(at(made) + " made in a field's initialiser",
                    holder.getLeaf() instanceof VariableTree && holder.getParentPath().getLeaf() == desk);
                Check.holds(at(made) + " of one length that is a constant", made.getInitializers() == null
                    && made.getDimensions().size() == 1 && isLength(made.getDimensions().get(0)));
                return super.visitNewArray(made, nothing);
            }

            @Override
            public Void visitIdentifier(IdentifierTree named, Void nothing) {
                Tree holder = getCurrentPath().getParentPath().getLeaf();
                Check.of("rule 4");
                Check.holds(at(named) + " the array " + named + " is only read and written at an index",
                    !arrays.contains(named.toString())
                        || holder instanceof ArrayAccessTree access && access.getExpression() == named);
                return super.visitIdentifier(named, nothing);
            }

            @Override
            public Void visitMethodInvocation(MethodInvocationTree call, Void nothing) {
                Check.of("rule 3");
                Check.holds(at(call) + " a method of the class", methods.containsKey(call.getMethodSelect().toString()));
                Check.of("rule 10");
                Check.holds(at(call) + " no call inside the arguments", callsIn(call.getArguments()).isEmpty());
                return super.visitMethodInvocation(call, nothing);
            }

            @Override
            public Void visitForLoop(ForLoopTree loop, Void nothing) {
                Check.of("rule 8");
                Check.holds(at(loop) + " a counter against a bound", hasEnd(loop));
                return super.visitForLoop(loop, nothing);
            }
        }.scan(file, null);
    }

    private static boolean isPlain(Tree tree) {
        return tree == desk || PLAIN.contains(tree.getKind()) || LITERALS.contains(tree.getKind())
            || tree instanceof UnaryTree || tree instanceof BinaryTree || tree instanceof CompoundAssignmentTree;
    }

    private static boolean isNumber(Tree type) {
        return type instanceof PrimitiveTypeTree named && TYPES.contains(named.getPrimitiveTypeKind());
    }

    private static boolean isFixed(ExpressionTree value) {
        return value.getKind() == Kind.INT_LITERAL || constants.contains(value.toString());
    }

    private static boolean isLength(ExpressionTree value) {
        return isFixed(value) && !value.toString().equals("0");
    }

    /** A loop of the form: for (int i = ..; i < bound; i++) or its mirror, that leaves i and bound alone. */
    private static boolean hasEnd(ForLoopTree loop) {
        if (loop.getInitializer().size() != 1 || loop.getUpdate().size() != 1
                || !(loop.getInitializer().get(0) instanceof VariableTree counter)) {
            return false;
        }
        ExpressionStatementTree update = loop.getUpdate().get(0);
        String name = counter.getName().toString();
        Set<String> written = writtenIn(loop.getStatement());
        for (BinaryTree part : comparedIn(loop.getCondition())) {
            String bound = part.getRightOperand().toString();
            boolean up = part.getKind() == Kind.LESS_THAN && update.getExpression().toString().equals(name + "++");
            boolean down = part.getKind() == Kind.GREATER_THAN && update.getExpression().toString().equals(name + "--");
            boolean named = part.getRightOperand() instanceof IdentifierTree || isFixed(part.getRightOperand());
            if ((up || down) && named && part.getLeftOperand().toString().equals(name)
                    && !written.contains(name) && !written.contains(bound)) {
                return true;
            }
        }
        return false;
    }

    /** What has to hold, each for itself, for a condition to hold. */
    private static List<BinaryTree> comparedIn(ExpressionTree condition) {
        List<BinaryTree> parts = new ArrayList<>();
        ExpressionTree rest = condition;
        while (rest instanceof BinaryTree both && both.getKind() == Kind.CONDITIONAL_AND) {
            if (both.getRightOperand() instanceof BinaryTree part) {
                parts.add(part);
            }
            rest = both.getLeftOperand();
        }
        if (rest instanceof BinaryTree part) {
            parts.add(part);
        }
        return parts;
    }

    private static Set<String> writtenIn(Tree tree) {
        Set<String> names = new HashSet<>();
        new TreeScanner<Void, Void>() {
            @Override
            public Void visitAssignment(AssignmentTree write, Void nothing) {
                names.add(write.getVariable().toString());
                return super.visitAssignment(write, nothing);
            }

            @Override
            public Void visitCompoundAssignment(CompoundAssignmentTree write, Void nothing) {
                names.add(write.getVariable().toString());
                return super.visitCompoundAssignment(write, nothing);
            }

            @Override
            public Void visitUnary(UnaryTree write, Void nothing) {
                if (STEPS.contains(write.getKind())) {
                    names.add(write.getExpression().toString());
                }
                return super.visitUnary(write, nothing);
            }
        }.scan(tree, null);
        return names;
    }

    private static void callsEnd() {
        for (String method : methods.keySet()) {
            int depth = 0;
            Set<String> level = Set.of(method);
            while (!level.isEmpty() && depth <= methods.size()) {
                Set<String> next = new TreeSet<>();
                for (String caller : level) {
                    next.addAll(callsIn(List.of(methods.get(caller).getBody())));
                }
                next.retainAll(methods.keySet());
                level = next;
                depth++;
            }
            Check.of("rule 8");
            Check.holds(method + " does not come back to itself", depth <= methods.size());
            Check.of("rule 10");
            Check.holds(method + " calls at most six deep, seen " + depth, depth <= 6);
        }
    }

    private static Set<String> callsIn(List<? extends Tree> trees) {
        Set<String> names = new TreeSet<>();
        new TreeScanner<Void, Void>() {
            @Override
            public Void visitMethodInvocation(MethodInvocationTree call, Void nothing) {
                names.add(call.getMethodSelect().toString());
                return super.visitMethodInvocation(call, nothing);
            }
        }.scan(trees, null);
        return names;
    }

    private static void methodHeads() {
        for (MethodTree method : methods.values()) {
            long first = line(positions.getStartPosition(file, method));
            long lines = line(positions.getEndPosition(file, method)) - first + 1;
            Check.of("rule 10");
            Check.holds(method.getName() + " is at most sixty lines, seen " + lines, lines <= 60);
            Check.holds(method.getName() + " takes at most seven parameters", method.getParameters().size() <= 7);
            Check.of("rule 6");
            Check.holds(method.getName() + " throws nothing", method.getThrows().isEmpty());
            Check.of("rule 4");
            Check.holds(method.getName() + " answers no array", !(method.getReturnType() instanceof ArrayTypeTree));
        }
    }

    private static String at(Tree tree) {
        return "line " + line(positions.getStartPosition(file, tree)) + ":";
    }

    private static long line(long position) {
        return position < 0 ? 0 : file.getLineMap().getLineNumber(position);
    }
}
