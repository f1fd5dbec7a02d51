import com.sun.source.tree.AssignmentTree;
import com.sun.source.tree.ClassTree;
import com.sun.source.tree.CompilationUnitTree;
import com.sun.source.tree.ExpressionTree;
import com.sun.source.tree.IdentifierTree;
import com.sun.source.tree.LiteralTree;
import com.sun.source.tree.MemberSelectTree;
import com.sun.source.tree.MethodInvocationTree;
import com.sun.source.tree.MethodTree;
import com.sun.source.tree.NewArrayTree;
import com.sun.source.tree.Tree;
import com.sun.source.tree.VariableTree;
import com.sun.source.util.JavacTask;
import com.sun.source.util.SourcePositions;
import com.sun.source.util.TreeScanner;
import com.sun.source.util.Trees;
import java.io.IOException;
import java.nio.file.Path;
import java.util.ArrayList;
import java.util.EnumSet;
import java.util.List;
import java.util.Map;
import java.util.Set;
import java.util.TreeMap;
import java.util.TreeSet;
import javax.lang.model.element.Modifier;
import javax.tools.JavaCompiler;
import javax.tools.StandardJavaFileManager;
import javax.tools.ToolProvider;

/** The source keeps to those rules of ../shared/LANGUAGE.md that can be read off it; FaceTest has the rest of rule 1. */
public final class LanguageTest {
    private static final Path SOURCE = Path.of("src/main/java/EventWindowsX.java");
    private static final Set<String> TYPES = Set.of("int", "long", "short", "byte", "char", "boolean",
            "int[]", "long[]", "short[]", "byte[]", "char[]", "boolean[]");
    private static final Set<Tree.Kind> FORBIDDEN = EnumSet.of(Tree.Kind.THROW, Tree.Kind.TRY, Tree.Kind.CATCH,
            Tree.Kind.SYNCHRONIZED, Tree.Kind.ASSERT, Tree.Kind.INSTANCE_OF, Tree.Kind.LAMBDA_EXPRESSION,
            Tree.Kind.MEMBER_REFERENCE, Tree.Kind.NEW_CLASS, Tree.Kind.NULL_LITERAL, Tree.Kind.STRING_LITERAL,
            Tree.Kind.FLOAT_LITERAL, Tree.Kind.DOUBLE_LITERAL, Tree.Kind.IMPORT, Tree.Kind.PACKAGE, Tree.Kind.ANNOTATION,
            Tree.Kind.INTERFACE, Tree.Kind.ENUM, Tree.Kind.RECORD, Tree.Kind.ANNOTATION_TYPE);
    private static final int MOST_PARAMETERS = 7;
    private static final int MOST_LINES = 60;
    private static final int MOST_DEPTH = 6;
    private static final int MOST_FIELDS = 40;

    private static final Check check = new Check();

    private static CompilationUnitTree unit;
    private static SourcePositions positions;
    private static final Map<String, VariableTree> fields = new TreeMap<>();
    private static final Map<String, MethodTree> methods = new TreeMap<>();

    public static void main(String[] args) throws IOException {
        JavaCompiler compiler = ToolProvider.getSystemJavaCompiler();
        try (StandardJavaFileManager files = compiler.getStandardFileManager(null, null, null)) {
            JavacTask task = (JavacTask) compiler.getTask(null, files, null, null, null, files.getJavaFileObjects(SOURCE));
            unit = task.parse().iterator().next();
            positions = Trees.instance(task).getSourcePositions();
            check.sentence("rule 1");
            check.due("classes in the file", unit.getTypeDecls().size(), 1);
            ClassTree face = (ClassTree) unit.getTypeDecls().get(0);
            members(face);
            words(face);
            staticFields();
            arrays();
            sizes();
            callGraph();
        }
        check.end();
    }

    private static long line(Tree tree) {
        return unit.getLineMap().getLineNumber(positions.getStartPosition(unit, tree));
    }

    private static String place(Tree tree) {
        return "line " + line(tree) + ": " + tree;
    }

    private static void members(ClassTree face) {
        for (Tree member : face.getMembers()) {
            if (member instanceof VariableTree field) {
                fields.put(field.getName().toString(), field);
            } else if (member instanceof MethodTree method) {
                // The call graph below tells methods apart by name.
                check.isTrue("one method of the name: " + method.getName(),
                        methods.put(method.getName().toString(), method) == null);
            } else {
                check.isTrue("rules 1 and 5, fields and methods alone: " + place(member), false);
            }
        }
    }

    private static void words(ClassTree face) {
        check.sentence("rules 2, 3 and 6");
        check.isTrue("no import and no package", unit.getImports().isEmpty() && unit.getPackageName() == null);
        new TreeScanner<Void, Void>() {
            @Override
            public Void scan(Tree tree, Void none) {
                if (tree != null) {
                    check.isTrue("not in the language: " + place(tree), !FORBIDDEN.contains(tree.getKind()));
                }
                return super.scan(tree, none);
            }

            @Override
            public Void visitVariable(VariableTree variable, Void none) {
                check.isTrue("a type of the language: " + place(variable), TYPES.contains(String.valueOf(variable.getType())));
                return super.visitVariable(variable, none);
            }

            @Override
            public Void visitMemberSelect(MemberSelectTree select, Void none) {
                check.isTrue("a field of this or the length of an array: " + place(select),
                        select.getExpression().toString().equals("this") || select.getIdentifier().contentEquals("length"));
                return super.visitMemberSelect(select, none);
            }
        }.scan(face, null);
        for (MethodTree method : methods.values()) {
            String answer = String.valueOf(method.getReturnType());
            boolean constructor = method.getName().contentEquals("<init>");
            check.isTrue("no array is answered: " + method.getName(),
                    constructor || answer.equals("void") || TYPES.contains(answer) && !answer.endsWith("[]"));
        }
    }

    private static boolean isArray(VariableTree variable) {
        return String.valueOf(variable.getType()).endsWith("[]");
    }

    private static void staticFields() {
        check.sentence("rule 5");
        for (VariableTree field : fields.values()) {
            Set<Modifier> flags = field.getModifiers().getFlags();
            if (flags.contains(Modifier.STATIC)) {
                String type = String.valueOf(field.getType());
                check.isTrue("a constant of int or long: " + place(field), flags.contains(Modifier.FINAL)
                        && field.getInitializer() != null && (type.equals("int") || type.equals("long")));
            }
        }
    }

    private static void arrays() {
        check.sentence("rule 4");
        for (VariableTree field : fields.values()) {
            if (isArray(field)) {
                // Final, so that no method can assign to it.
                check.isTrue("made once, in the field's initialiser: " + place(field),
                        field.getModifiers().getFlags().contains(Modifier.FINAL)
                        && field.getInitializer() instanceof NewArrayTree made && hasConstantLength(made));
            }
        }
        for (MethodTree method : methods.values()) {
            new TreeScanner<Void, Void>() {
                @Override
                public Void visitNewArray(NewArrayTree made, Void none) {
                    check.isTrue("a method makes no array: " + place(made), false);
                    return super.visitNewArray(made, none);
                }

                // Stricter than the rule, which lets a private method be handed an array: the class does without.
                @Override
                public Void visitVariable(VariableTree variable, Void none) {
                    check.isTrue("arrays are named by their fields alone: " + place(variable), !isArray(variable));
                    return super.visitVariable(variable, none);
                }

                @Override
                public Void visitAssignment(AssignmentTree assignment, Void none) {
                    VariableTree field = fields.get(assignment.getVariable().toString());
                    check.isTrue("no array field is assigned: " + place(assignment), field == null || !isArray(field));
                    return super.visitAssignment(assignment, none);
                }
            }.scan(method, null);
        }
    }

    private static boolean hasConstantLength(NewArrayTree made) {
        if (made.getDimensions().size() != 1 || made.getInitializers() != null) {
            return false;
        }
        ExpressionTree length = made.getDimensions().get(0);
        VariableTree constant = length instanceof IdentifierTree ? fields.get(length.toString()) : null;
        return length instanceof LiteralTree
                || constant != null && constant.getModifiers().getFlags().contains(Modifier.STATIC);
    }

    private static void sizes() {
        check.sentence("rule 10");
        long own = fields.values().stream().filter(f -> !f.getModifiers().getFlags().contains(Modifier.STATIC)).count();
        check.isTrue("fields beside the constants: " + own, own <= MOST_FIELDS);
        for (MethodTree method : methods.values()) {
            check.isTrue("parameters of " + method.getName(), method.getParameters().size() <= MOST_PARAMETERS);
            long last = unit.getLineMap().getLineNumber(positions.getEndPosition(unit, method));
            check.isTrue("lines of " + method.getName(), last - line(method) + 1 <= MOST_LINES);
        }
    }

    private static Set<String> callsIn(Tree tree) {
        Set<String> found = new TreeSet<>();
        new TreeScanner<Void, Void>() {
            @Override
            public Void visitMethodInvocation(MethodInvocationTree call, Void none) {
                String name = call.getMethodSelect().toString();
                // The compiler writes super() into a constructor by itself.
                if (!name.equals("super")) {
                    found.add(name);
                }
                return super.visitMethodInvocation(call, none);
            }
        }.scan(tree, null);
        return found;
    }

    private static void callGraph() {
        check.sentence("rules 3, 8 and 10");
        Map<String, Set<String>> calls = new TreeMap<>();
        for (MethodTree method : methods.values()) {
            calls.put(method.getName().toString(), callsIn(method));
            check.isTrue("calls the class's own methods alone: " + method.getName() + " " + callsIn(method),
                    methods.keySet().containsAll(callsIn(method)));
            new TreeScanner<Void, Void>() {
                @Override
                public Void visitMethodInvocation(MethodInvocationTree call, Void none) {
                    for (ExpressionTree argument : call.getArguments()) {
                        check.isTrue("no call inside the arguments of another: " + place(call), callsIn(argument).isEmpty());
                    }
                    return super.visitMethodInvocation(call, none);
                }
            }.scan(method, null);
        }
        check.isTrue("no recursion, and calls at most " + MOST_DEPTH + " deep: " + levels(calls), levels(calls) <= MOST_DEPTH);
    }

    // Takes off, again and again, the methods that call none of those left; a
    // ring of calls is never taken off and counts as too deep.
    private static int levels(Map<String, Set<String>> calls) {
        Set<String> left = new TreeSet<>(calls.keySet());
        int levels = 0;
        while (!left.isEmpty()) {
            List<String> leaves = new ArrayList<>();
            for (String name : left) {
                if (calls.get(name).stream().noneMatch(left::contains)) {
                    leaves.add(name);
                }
            }
            if (leaves.isEmpty()) {
                return Integer.MAX_VALUE;
            }
            left.removeAll(leaves);
            levels++;
        }
        return levels;
    }
}
