import com.sun.source.tree.BlockTree;
import com.sun.source.tree.ClassTree;
import com.sun.source.tree.CompilationUnitTree;
import com.sun.source.tree.ExpressionTree;
import com.sun.source.tree.IdentifierTree;
import com.sun.source.tree.LineMap;
import com.sun.source.tree.MemberSelectTree;
import com.sun.source.tree.MethodInvocationTree;
import com.sun.source.tree.MethodTree;
import com.sun.source.tree.NewArrayTree;
import com.sun.source.tree.Tree;
import com.sun.source.tree.Tree.Kind;
import com.sun.source.tree.TypeCastTree;
import com.sun.source.tree.VariableTree;
import com.sun.source.util.JavacTask;
import com.sun.source.util.TreePathScanner;
import com.sun.source.util.Trees;
import java.io.IOException;
import java.nio.file.Path;
import java.util.EnumSet;
import java.util.HashSet;
import java.util.List;
import java.util.Map;
import java.util.Set;
import java.util.TreeMap;
import java.util.TreeSet;
import javax.lang.model.element.Modifier;
import javax.tools.JavaCompiler;
import javax.tools.StandardJavaFileManager;
import javax.tools.ToolProvider;

// The rules of LANGUAGE.md that can be seen in the source, each fault with the rule's number. Rule 7
// and the ends of loops (rule 8) can't be seen so: there the runs of the other tests must do.
public final class LanguageTest extends TreePathScanner<Void, Void> {
    private static final Path SOURCE = Path.of("src/main/java/MeanPayoffGame.java");
    private static final Set<String> TYPES = Set.of("int", "long", "short", "byte", "char", "boolean", "int[]", "long[]",
        "short[]", "byte[]", "char[]", "boolean[]");
    private static final Map<Kind, Integer> RULED_OUT = Map.ofEntries(Map.entry(Kind.INTERFACE, 1), Map.entry(Kind.ENUM, 1),
        Map.entry(Kind.RECORD, 1), Map.entry(Kind.ANNOTATION_TYPE, 1), Map.entry(Kind.STRING_LITERAL, 2),
        Map.entry(Kind.FLOAT_LITERAL, 2), Map.entry(Kind.DOUBLE_LITERAL, 2), Map.entry(Kind.NEW_CLASS, 2),
        Map.entry(Kind.IMPORT, 3), Map.entry(Kind.ANNOTATION, 3), Map.entry(Kind.NULL_LITERAL, 4),
        Map.entry(Kind.THROW, 6), Map.entry(Kind.TRY, 6), Map.entry(Kind.SYNCHRONIZED, 6), Map.entry(Kind.ASSERT, 6),
        Map.entry(Kind.INSTANCE_OF, 6), Map.entry(Kind.LAMBDA_EXPRESSION, 6), Map.entry(Kind.MEMBER_REFERENCE, 6));

    private static int wrong = 0;

    private final CompilationUnitTree unit;
    private final Trees trees;
    private final Map<String, Set<String>> calls = new TreeMap<>();
    private final Set<String> publicNames = new TreeSet<>();
    private final Set<String> privateNames = new TreeSet<>();
    private String method = "";
    private int fields = 0;

    private LanguageTest(CompilationUnitTree unit, Trees trees) {
        this.unit = unit;
        this.trees = trees;
    }

    private static void fault(int rule, String text) {
        wrong++;
        System.out.println("rule " + rule + ": " + text);
    }

    private long line(long position) {
        LineMap lines = unit.getLineMap();
        return lines.getLineNumber(position);
    }

    private void fault(int rule, Tree tree) {
        long start = trees.getSourcePositions().getStartPosition(unit, tree);
        fault(rule, "line " + line(start) + ": " + tree);
    }

    private static boolean isArray(Tree type) {
        return type.toString().endsWith("]");
    }

    @Override
    public Void scan(Tree tree, Void unused) {
        if (tree != null && RULED_OUT.containsKey(tree.getKind())) {
            fault(RULED_OUT.get(tree.getKind()), tree);
        }
        return super.scan(tree, unused);
    }

    @Override
    public Void visitClass(ClassTree tree, Void unused) {
        if (getCurrentPath().getParentPath().getLeaf() != unit) {
            fault(1, tree);
        }
        for (Tree member : tree.getMembers()) {
            if (member.getKind() == Kind.BLOCK && ((BlockTree) member).isStatic()) {
                fault(5, member);
            }
        }
        return super.visitClass(tree, unused);
    }

    @Override
    public Void visitVariable(VariableTree tree, Void unused) {
        Set<Modifier> modifiers = tree.getModifiers().getFlags();
        if (tree.getType() == null || !TYPES.contains(tree.getType().toString())) {
            fault(2, tree);
        }
        if (getCurrentPath().getParentPath().getLeaf().getKind() == Kind.CLASS) {
            visitField(tree, modifiers);
        }
        return super.visitVariable(tree, unused);
    }

    private void visitField(VariableTree tree, Set<Modifier> modifiers) {
        boolean constant = modifiers.containsAll(EnumSet.of(Modifier.STATIC, Modifier.FINAL));
        String type = tree.getType().toString();
        if (modifiers.contains(Modifier.STATIC) && !(constant && Set.of("int", "long").contains(type))) {
            fault(5, tree);
        }
        // Then the compiler sees to it that nothing is assigned to an array field.
        if (isArray(tree.getType()) && !modifiers.contains(Modifier.FINAL)) {
            fault(4, tree);
        }
        if (!constant && ++fields > 40) {
            fault(10, tree);
        }
    }

    /** Arrays in the constructor are allowed too, but in the fields they are easier to see. */
    @Override
    public Void visitNewArray(NewArrayTree tree, Void unused) {
        Tree parent = getCurrentPath().getParentPath().getLeaf();
        Tree grandparent = getCurrentPath().getParentPath().getParentPath().getLeaf();
        List<? extends ExpressionTree> lengths = tree.getDimensions();
        boolean inField = parent.getKind() == Kind.VARIABLE && grandparent.getKind() == Kind.CLASS;
        boolean plain = lengths.size() == 1 && EnumSet.of(Kind.IDENTIFIER, Kind.INT_LITERAL).contains(lengths.get(0).getKind());
        if (!inField || !plain) {
            fault(4, tree);
        }
        return super.visitNewArray(tree, unused);
    }

    @Override
    public Void visitMemberSelect(MemberSelectTree tree, Void unused) {
        boolean length = tree.getIdentifier().contentEquals("length");
        if (!length && !tree.getExpression().toString().equals("this")) {
            fault(3, tree);
        }
        return super.visitMemberSelect(tree, unused);
    }

    @Override
    public Void visitTypeCast(TypeCastTree tree, Void unused) {
        if (tree.getType().getKind() != Kind.PRIMITIVE_TYPE) {
            fault(6, tree);
        }
        return super.visitTypeCast(tree, unused);
    }

    @Override
    public Void visitMethod(MethodTree tree, Void unused) {
        Tree type = tree.getReturnType();
        if (type != null && !type.toString().equals("void") && !TYPES.contains(type.toString())) {
            fault(2, tree);
        }
        if (type != null && isArray(type)) {
            fault(4, tree);
        }
        long first = line(trees.getSourcePositions().getStartPosition(unit, tree));
        long last = line(trees.getSourcePositions().getEndPosition(unit, tree));
        if (tree.getParameters().size() > 7 || last - first >= 60) {
            fault(10, tree);
        }
        method = tree.getName().toString();
        (tree.getModifiers().getFlags().contains(Modifier.PRIVATE) ? privateNames : publicNames).add(method);
        calls.putIfAbsent(method, new TreeSet<>());
        super.visitMethod(tree, unused);
        method = "";
        return null;
    }

    @Override
    public Void visitMethodInvocation(MethodInvocationTree tree, Void unused) {
        if (tree.getMethodSelect() instanceof IdentifierTree) {
            calls.computeIfAbsent(method, m -> new TreeSet<>()).add(tree.getMethodSelect().toString());
        }
        for (Tree above : getCurrentPath().getParentPath()) {
            if (above.getKind() == Kind.METHOD_INVOCATION) {
                fault(10, above);
            }
        }
        return super.visitMethodInvocation(tree, unused);
    }

    /** How deep the calls go from a method, itself included. */
    private int depth(String name, Set<String> above) {
        if (!calls.containsKey(name)) {
            fault(3, name + " is no method of the class");
            return 0;
        }
        if (!above.add(name)) {
            fault(8, name + " calls itself, through " + above);
            return 0;
        }
        int deepest = 0;
        for (String called : calls.get(name)) {
            deepest = Math.max(deepest, depth(called, above));
        }
        above.remove(name);
        return deepest + 1;
    }

    private void lookAtCalls() {
        Set<String> both = new TreeSet<>(publicNames);
        both.retainAll(privateNames);
        if (!both.isEmpty()) {
            fault(1, "private methods with the names of public ones: " + both);
        }
        for (String name : calls.keySet()) {
            int depth = depth(name, new HashSet<>());
            if (depth > 6) {
                fault(10, "the calls of " + name + " go " + depth + " deep");
            }
        }
    }

    public static void main(String[] args) throws IOException {
        JavaCompiler compiler = ToolProvider.getSystemJavaCompiler();
        try (StandardJavaFileManager files = compiler.getStandardFileManager(null, null, null)) {
            JavacTask task = (JavacTask) compiler.getTask(null, files, null, List.of("--release", "17"), null,
                files.getJavaFileObjects(SOURCE));
            int classes = 0;
            for (CompilationUnitTree unit : task.parse()) {
                if (unit.getPackage() != null) {
                    fault(1, unit.getPackage().toString());
                }
                classes += unit.getTypeDecls().size();
                LanguageTest test = new LanguageTest(unit, Trees.instance(task));
                test.scan(unit, null);
                test.lookAtCalls();
            }
            if (classes != 1) {
                fault(1, "the file has " + classes + " classes");
            }
        }
        System.out.println(wrong == 0 ? "the source keeps to the rules" : wrong + " faults");
        if (wrong != 0) System.exit(1);
    }
}
