import com.sun.source.tree.ClassTree;
import com.sun.source.tree.CompilationUnitTree;
import com.sun.source.tree.DoWhileLoopTree;
import com.sun.source.tree.ExpressionTree;
import com.sun.source.tree.ForLoopTree;
import com.sun.source.tree.IdentifierTree;
import com.sun.source.tree.LiteralTree;
import com.sun.source.tree.MethodInvocationTree;
import com.sun.source.tree.MethodTree;
import com.sun.source.tree.NewArrayTree;
import com.sun.source.tree.Tree;
import com.sun.source.tree.VariableTree;
import com.sun.source.tree.WhileLoopTree;
import com.sun.source.util.JavacTask;
import com.sun.source.util.SourcePositions;
import com.sun.source.util.TreeScanner;
import com.sun.source.util.Trees;
import java.io.IOException;
import java.nio.file.Path;
import java.util.EnumSet;
import java.util.List;
import java.util.Map;
import java.util.Set;
import java.util.TreeMap;
import java.util.TreeSet;
import javax.lang.model.element.Modifier;
import javax.tools.JavaCompiler;
import javax.tools.StandardJavaFileManager;
import javax.tools.ToolProvider;

/**
 * The rules of LANGUAGE.md that can be read off the source, each named by its number. In three things this asks for more
 * than they do, as it reads the source without resolving names: no two methods share a name, nothing stands behind a
 * dot, and arrays are made in the initialisers of final fields alone.
 */
public final class ChartParserLanguage extends Trial {
    private static final Path SOURCE = Path.of("src/main/java/ChartParser.java");
    private static final Set<String> TYPES = Set.of("int", "long", "short", "byte", "char", "boolean", "void");

    /** What never stands in the class, with the number of the rule that says so. */
    private static final Map<Tree.Kind, Integer> NEVER = Map.ofEntries(
        Map.entry(Tree.Kind.INTERFACE, 1), Map.entry(Tree.Kind.ENUM, 1), Map.entry(Tree.Kind.RECORD, 1),
        Map.entry(Tree.Kind.CLASS, 1),
        Map.entry(Tree.Kind.STRING_LITERAL, 2), Map.entry(Tree.Kind.FLOAT_LITERAL, 2),
        Map.entry(Tree.Kind.DOUBLE_LITERAL, 2), Map.entry(Tree.Kind.NEW_CLASS, 2),
        Map.entry(Tree.Kind.MEMBER_SELECT, 3), Map.entry(Tree.Kind.NULL_LITERAL, 4),
        Map.entry(Tree.Kind.THROW, 6), Map.entry(Tree.Kind.TRY, 6), Map.entry(Tree.Kind.SYNCHRONIZED, 6),
        Map.entry(Tree.Kind.ASSERT, 6), Map.entry(Tree.Kind.INSTANCE_OF, 6),
        Map.entry(Tree.Kind.LAMBDA_EXPRESSION, 6), Map.entry(Tree.Kind.MEMBER_REFERENCE, 6),
        Map.entry(Tree.Kind.ENHANCED_FOR_LOOP, 8));
    private static final Set<Tree.Kind> COMPARISONS = EnumSet.of(Tree.Kind.LESS_THAN, Tree.Kind.LESS_THAN_EQUAL,
        Tree.Kind.GREATER_THAN, Tree.Kind.GREATER_THAN_EQUAL);

    private static void rule(int number, boolean kept, String what) {
        require("rule " + number + ": " + what, kept);
    }

    /** What stands inside a member; the rules that bear on the class as a whole are looked at elsewhere. */
    private static final class Inside extends TreeScanner<Void, Void> {
        final Set<String> called = new TreeSet<>();
        final Set<String> declared;
        final Set<String> constants;
        final String member;
        private int callsAround = 0;

        Inside(String member, Set<String> declared, Set<String> constants) {
            this.member = member;
            this.declared = declared;
            this.constants = constants;
        }

        @Override
        public Void scan(Tree tree, Void v) {
            if (tree != null && NEVER.containsKey(tree.getKind())) {
                rule(NEVER.get(tree.getKind()), false, member + " has " + tree.getKind() + ": " + tree);
            }
            return super.scan(tree, v);
        }

        @Override
        public Void visitMethodInvocation(MethodInvocationTree call, Void v) {
            String name = call.getMethodSelect().toString();
            rule(3, declared.contains(name), member + " calls " + name);
            rule(10, callsAround == 0, member + " calls " + name + " inside a call's arguments");
            called.add(name);
            callsAround++;
            scan(call.getArguments(), v);
            callsAround--;
            return null;
        }

        @Override
        public Void visitVariable(VariableTree variable, Void v) {
            rule(2, isPlainType(variable.getType()), member + ": the type of " + variable);
            return super.visitVariable(variable, v);
        }

        @Override
        public Void visitNewArray(NewArrayTree made, Void v) {
            rule(4, member.startsWith("field"), member + " makes an array");
            List<? extends ExpressionTree> lengths = made.getDimensions();
            rule(4, made.getInitializers() == null && lengths.size() == 1, member + " makes " + made);
            for (ExpressionTree length : lengths) {
                boolean constant = length instanceof LiteralTree
                    || length instanceof IdentifierTree && constants.contains(length.toString());
                rule(4, constant, member + " makes an array of length " + length);
            }
            return super.visitNewArray(made, v);
        }

        @Override
        public Void visitForLoop(ForLoopTree loop, Void v) {
            checkBound(loop.getCondition());
            return super.visitForLoop(loop, v);
        }

        @Override
        public Void visitWhileLoop(WhileLoopTree loop, Void v) {
            checkBound(loop.getCondition());
            return super.visitWhileLoop(loop, v);
        }

        @Override
        public Void visitDoWhileLoop(DoWhileLoopTree loop, Void v) {
            checkBound(loop.getCondition());
            return super.visitDoWhileLoop(loop, v);
        }

        private void checkBound(ExpressionTree condition) {
            boolean[] bounded = {false};
            new TreeScanner<Void, Void>() {
                @Override
                public Void scan(Tree tree, Void v) {
                    bounded[0] = bounded[0] || tree != null && COMPARISONS.contains(tree.getKind());
                    return super.scan(tree, v);
                }
            }.scan(condition, null);
            rule(8, bounded[0], member + ": a loop without a bound, while " + condition);
        }
    }

    private static boolean isPlainType(Tree type) {
        return TYPES.contains(type.toString().replaceFirst("\\[\\]$", ""));
    }

    private static Set<String> methodNames(ClassTree c) {
        Set<String> names = new TreeSet<>();
        for (Tree member : c.getMembers()) {
            if (member instanceof MethodTree m) {
                rule(1, names.add(m.getName().toString()), "a second method named " + m.getName());
            }
        }
        return names;
    }

    private static Set<String> constantNames(ClassTree c) {
        Set<String> names = new TreeSet<>();
        for (Tree member : c.getMembers()) {
            if (member instanceof VariableTree f && f.getModifiers().getFlags().contains(Modifier.STATIC)) {
                names.add(f.getName().toString());
            }
        }
        return names;
    }

    private static void checkField(VariableTree f, Set<String> methods, Set<String> constants) {
        Set<Modifier> flags = f.getModifiers().getFlags();
        String type = f.getType().toString();
        if (flags.contains(Modifier.STATIC)) {
            boolean constant = flags.contains(Modifier.FINAL) && (type.equals("int") || type.equals("long"));
            rule(5, constant, "a static field that is no constant: " + f);
        } else {
            rule(1, flags.contains(Modifier.PRIVATE), "a field that others see: " + f);
            rule(4, !type.endsWith("[]") || flags.contains(Modifier.FINAL), "an array field that may change: " + f);
        }
        Inside inside = new Inside("field " + f.getName(), methods, constants);
        inside.scan(f, null);
        rule(5, inside.called.isEmpty(), "a field that begins with a call: " + f);
    }

    /** How deep calls go from a method on, itself counted; beyond every limit if it comes back to itself. */
    private static int depth(String method, Map<String, Set<String>> calls, Set<String> around) {
        if (around.contains(method)) {
            rule(8, false, method + " is called from within itself");
            return HIGH / 2;
        }
        around.add(method);
        int deepest = 0;
        for (String inner : calls.getOrDefault(method, Set.of())) {
            deepest = Math.max(deepest, depth(inner, calls, around));
        }
        around.remove(method);
        return deepest + 1;
    }

    private static long lines(CompilationUnitTree unit, Tree tree, SourcePositions positions) {
        long first = unit.getLineMap().getLineNumber(positions.getStartPosition(unit, tree));
        return unit.getLineMap().getLineNumber(positions.getEndPosition(unit, tree)) - first + 1;
    }

    private static void checkClass(CompilationUnitTree unit, ClassTree c, SourcePositions positions) {
        Set<String> methods = methodNames(c);
        Set<String> constants = constantNames(c);
        Map<String, Set<String>> calls = new TreeMap<>();
        int fields = 0;
        for (Tree member : c.getMembers()) {
            if (member instanceof VariableTree f) {
                checkField(f, methods, constants);
                fields += f.getModifiers().getFlags().contains(Modifier.STATIC) ? 0 : 1;
            } else if (member instanceof MethodTree m) {
                String name = m.getName().toString();
                Inside inside = new Inside(name, methods, constants);
                inside.scan(m.getParameters(), null);
                inside.scan(m.getBody(), null);
                calls.put(name, inside.called);
                boolean plain = m.getReturnType() == null || TYPES.contains(m.getReturnType().toString());
                rule(2, plain, name + " answers " + m.getReturnType());
                rule(6, m.getThrows().isEmpty(), name + " throws");
                rule(10, m.getParameters().size() <= 7, name + " has more than seven parameters");
                rule(10, lines(unit, m, positions) <= 60, name + " has more than sixty lines");
            } else {
                rule(1, false, "a member that is neither a field nor a method: " + member);
            }
        }
        rule(10, fields <= 40, fields + " fields");
        for (String name : methods) {
            int depth = depth(name, calls, new TreeSet<>());
            rule(10, depth <= 6, "calls from " + name + " go " + depth + " deep");
        }
    }

    public static void main(String[] args) throws IOException {
        about("LANGUAGE.md");
        JavaCompiler compiler = ToolProvider.getSystemJavaCompiler();
        try (StandardJavaFileManager files = compiler.getStandardFileManager(null, null, null)) {
            JavacTask task = (JavacTask) compiler.getTask(null, files, null, List.of("--release", "17"), null,
                files.getJavaFileObjects(SOURCE));
            CompilationUnitTree unit = task.parse().iterator().next();
            rule(1, unit.getPackageName() == null, "a package line");
            rule(3, unit.getImports().isEmpty(), "an import");
            rule(1, unit.getTypeDecls().size() == 1, "more than one class");
            for (Tree type : unit.getTypeDecls()) {
                checkClass(unit, (ClassTree) type, Trees.instance(task).getSourcePositions());
            }
        }
        finish();
    }
}
