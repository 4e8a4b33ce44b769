import com.sun.source.tree.AssertTree;
import com.sun.source.tree.BinaryTree;
import com.sun.source.tree.ClassTree;
import com.sun.source.tree.CompilationUnitTree;
import com.sun.source.tree.ConditionalExpressionTree;
import com.sun.source.tree.DoWhileLoopTree;
import com.sun.source.tree.ExpressionTree;
import com.sun.source.tree.ForLoopTree;
import com.sun.source.tree.IdentifierTree;
import com.sun.source.tree.LambdaExpressionTree;
import com.sun.source.tree.LiteralTree;
import com.sun.source.tree.MemberReferenceTree;
import com.sun.source.tree.MemberSelectTree;
import com.sun.source.tree.MethodInvocationTree;
import com.sun.source.tree.MethodTree;
import com.sun.source.tree.NewClassTree;
import com.sun.source.tree.ParenthesizedTree;
import com.sun.source.tree.SynchronizedTree;
import com.sun.source.tree.ThrowTree;
import com.sun.source.tree.Tree;
import com.sun.source.tree.TryTree;
import com.sun.source.tree.TypeCastTree;
import com.sun.source.tree.UnaryTree;
import com.sun.source.tree.VariableTree;
import com.sun.source.tree.WhileLoopTree;
import com.sun.source.util.JavacTask;
import com.sun.source.util.TreePath;
import com.sun.source.util.TreePathScanner;
import com.sun.source.util.Trees;
import java.io.IOException;
import java.nio.file.Path;
import java.util.ArrayDeque;
import java.util.Arrays;
import java.util.Deque;
import java.util.HashMap;
import java.util.HashSet;
import java.util.List;
import java.util.Map;
import java.util.Set;
import java.util.TreeSet;
import javax.lang.model.element.Element;
import javax.lang.model.element.ElementKind;
import javax.lang.model.element.ExecutableElement;
import javax.lang.model.element.Modifier;
import javax.lang.model.element.VariableElement;
import javax.lang.model.type.TypeKind;
import javax.lang.model.type.TypeMirror;
import javax.tools.JavaCompiler;
import javax.tools.StandardJavaFileManager;
import javax.tools.ToolProvider;

/** The class as the compiler reads it, held against the rules of LANGUAGE.md, each by its number. */
final class Source extends TreePathScanner<Void, Void> {
    private static final int MOST_PARAMETERS = 7;
    private static final int MOST_LINES = 60;
    private static final int MOST_DEEP = 8;
    private static final int MOST_CLASSES = 12;
    private static final int MOST_FIELDS = 20;
    private static final Map<String, Set<String>> LIBRARY = new HashMap<>();

    static {
        allow("java.lang.String", "length charAt isEmpty equals indexOf substring toCharArray");
        allow("java.lang.StringBuilder", "append charAt setCharAt setLength deleteCharAt reverse length toString");
        allow("java.util.ArrayList", "add get set remove size isEmpty clear");
        allow("java.util.List", "add get set remove size isEmpty clear of");
        allow("java.lang.System", "arraycopy");
        allow("java.util.Arrays", "copyOf copyOfRange fill");
        for (String of : new String[] {"java.lang.Math", "java.lang.Integer", "java.lang.Long"}) {
            allow(of, "compare max min abs bitCount floorDiv floorMod signum numberOfTrailingZeros "
                    + "numberOfLeadingZeros highestOneBit lowestOneBit");
        }
    }

    private final Set<String> broken = new TreeSet<>();
    private final Map<String, Set<String>> calls = new HashMap<>();
    private final Map<String, Integer> depths = new HashMap<>();
    private final Set<String> faces = new TreeSet<>();
    private final Deque<String> within = new ArrayDeque<>();
    private final CompilationUnitTree unit;
    private final Trees trees;
    private int classes;
    private int deepest;

    Source(Path path) throws IOException {
        JavaCompiler compiler = ToolProvider.getSystemJavaCompiler();
        try (StandardJavaFileManager files = compiler.getStandardFileManager(null, null, null)) {
            JavacTask task = (JavacTask) compiler.getTask(null, files, null, List.of("-proc:none"), null,
                    files.getJavaFileObjects(path));
            unit = task.parse().iterator().next();
            task.analyze();
            trees = Trees.instance(task);
            scan(new TreePath(unit), null);
        }
        for (String face : faces) {
            deepest = Math.max(deepest, depthOf(face, new HashSet<>()));
        }
        rule(11, deepest <= MOST_DEEP, "calls go " + deepest + " deep");
        rule(11, classes <= MOST_CLASSES, "there are " + classes + " classes");
    }

    /** What the rules do not leave, each with its rule. */
    Set<String> broken() {
        return broken;
    }

    int deepest() {
        return deepest;
    }

    private static void allow(String of, String names) {
        LIBRARY.put(of, new HashSet<>(Arrays.asList(names.split(" "))));
    }

    private void rule(int number, boolean kept, String what) {
        if (!kept) {
            broken.add("rule " + number + ": " + what);
        }
    }

    private void never(int number, Tree tree) {
        rule(number, false, "line " + line(tree) + " has a " + tree.getKind());
    }

    private long line(Tree tree) {
        return unit.getLineMap().getLineNumber(trees.getSourcePositions().getStartPosition(unit, tree));
    }

    private Element element() {
        return trees.getElement(getCurrentPath());
    }

    private static boolean own(Element element) {
        return element != null && element.toString().startsWith("NamedSparks");
    }

    private static String key(Element method) {
        return method.getEnclosingElement() + "." + method;
    }

    /** How many calls stand open at once below this one, itself among them; no call leads back to itself. */
    private int depthOf(String method, Set<String> above) {
        if (depths.containsKey(method)) {
            return depths.get(method);
        }
        if (!above.add(method)) {
            rule(8, false, method + " calls itself");
            return 0;
        }
        int most = 0;
        for (String called : calls.getOrDefault(method, Set.of())) {
            most = Math.max(most, depthOf(called, above));
        }
        above.remove(method);
        depths.put(method, most + 1);
        return most + 1;
    }

    private void call(Element method) {
        if (!within.isEmpty()) {
            calls.computeIfAbsent(within.peek(), k -> new HashSet<>()).add(key(method));
        }
    }

    @Override
    public Void visitClass(ClassTree tree, Void p) {
        Tree parent = getCurrentPath().getParentPath().getLeaf();
        boolean outer = parent instanceof CompilationUnitTree;
        classes += outer ? 0 : 1;
        rule(2, outer || parent instanceof ClassTree, "line " + line(tree) + " is a class within a method");
        rule(2, outer || tree.getModifiers().getFlags().contains(Modifier.STATIC),
                tree.getSimpleName() + " is not static");
        int fields = 0;
        for (Tree member : tree.getMembers()) {
            if (member instanceof VariableTree) {
                Set<Modifier> flags = ((VariableTree) member).getModifiers().getFlags();
                fields += flags.contains(Modifier.STATIC) ? 0 : 1;
                rule(5, !flags.contains(Modifier.STATIC) || flags.contains(Modifier.FINAL),
                        "line " + line(member) + " is static and not final");
            }
            rule(5, member.getKind() != Tree.Kind.BLOCK, "line " + line(member) + " is a block");
        }
        rule(11, fields <= MOST_FIELDS, tree.getSimpleName() + " has " + fields + " fields");
        return super.visitClass(tree, p);
    }

    @Override
    public Void visitMethod(MethodTree tree, Void p) {
        Element method = element();
        within.push(key(method));
        if (method.getModifiers().contains(Modifier.PUBLIC)) {
            faces.add(key(method));
        }
        rule(11, tree.getParameters().size() <= MOST_PARAMETERS, tree.getName() + " has too many parameters");
        long end = unit.getLineMap().getLineNumber(trees.getSourcePositions().getEndPosition(unit, tree));
        rule(11, end - line(tree) < MOST_LINES, tree.getName() + " has " + (end - line(tree) + 1) + " lines");
        super.visitMethod(tree, p);
        within.pop();
        return null;
    }

    @Override
    public Void visitMethodInvocation(MethodInvocationTree tree, Void p) {
        ExecutableElement method = (ExecutableElement) element();
        String owner = method.getEnclosingElement().toString();
        String name = method.getSimpleName().toString();
        boolean above = name.equals("<init>");
        if (!own(method.getEnclosingElement()) && !above) {
            boolean array = owner.equals("Array") && name.equals("clone");
            rule(4, array || LIBRARY.getOrDefault(owner, Set.of()).contains(name),
                    "line " + line(tree) + " calls " + owner + "." + name);
        }
        if (!above) {
            call(method);
        }
        return super.visitMethodInvocation(tree, p);
    }

    @Override
    public Void visitNewClass(NewClassTree tree, Void p) {
        Element made = element().getEnclosingElement();
        rule(4, own(made) || made.toString().matches("java.util.ArrayList|java.lang.String(Builder)?"),
                "line " + line(tree) + " makes a " + made);
        rule(2, tree.getClassBody() == null, "line " + line(tree) + " has a class without a name");
        call(element());
        return super.visitNewClass(tree, p);
    }

    @Override
    public Void visitMemberSelect(MemberSelectTree tree, Void p) {
        Element field = element();
        if (field != null && field.getKind() == ElementKind.FIELD && !field.toString().equals("length")) {
            rule(4, own(field.getEnclosingElement()), "line " + line(tree) + " uses " + tree);
        }
        return super.visitMemberSelect(tree, p);
    }

    @Override
    public Void visitVariable(VariableTree tree, Void p) {
        TypeMirror type = element().asType();
        int dimensions = 0;
        while (type.getKind() == TypeKind.ARRAY) {
            type = ((javax.lang.model.type.ArrayType) type).getComponentType();
            dimensions++;
        }
        boolean number = type.getKind().isPrimitive();
        boolean allowed = number || type.toString().matches("NamedSparks.*|java.lang.(String(Builder)?|Integer)")
                || type.toString().startsWith("java.util.ArrayList<");
        rule(3, allowed && dimensions <= (number ? 2 : 1), "line " + line(tree) + " is a " + element().asType());
        return super.visitVariable(tree, p);
    }

    @Override
    public Void visitBinary(BinaryTree tree, Void p) {
        TypeMirror type = trees.getTypeMirror(getCurrentPath());
        rule(10, type.getKind().isPrimitive(), "line " + line(tree) + " joins texts");
        boolean divides = tree.getKind() == Tree.Kind.DIVIDE || tree.getKind() == Tree.Kind.REMAINDER;
        if (divides && !constant(tree.getRightOperand())) {
            rule(7, getCurrentPath().getParentPath().getLeaf() instanceof ConditionalExpressionTree,
                    "line " + line(tree) + " divides by what was not looked at");
        }
        return super.visitBinary(tree, p);
    }

    /** Whether this is worth the same, and not 0, whatever happens. */
    private boolean constant(ExpressionTree tree) {
        if (tree instanceof ParenthesizedTree) {
            return constant(((ParenthesizedTree) tree).getExpression());
        }
        if (tree instanceof BinaryTree) {
            return constant(((BinaryTree) tree).getLeftOperand()) && constant(((BinaryTree) tree).getRightOperand());
        }
        if (tree instanceof UnaryTree) {
            return constant(((UnaryTree) tree).getExpression());
        }
        if (tree instanceof IdentifierTree) {
            Element named = trees.getElement(new TreePath(getCurrentPath(), tree));
            return named instanceof VariableElement && ((VariableElement) named).getConstantValue() != null;
        }
        return tree instanceof LiteralTree && !"0".equals(tree.toString());
    }

    @Override
    public Void visitTypeCast(TypeCastTree tree, Void p) {
        rule(6, trees.getTypeMirror(getCurrentPath()).getKind().isPrimitive(),
                "line " + line(tree) + " casts to " + tree.getType());
        return super.visitTypeCast(tree, p);
    }

    @Override
    public Void visitForLoop(ForLoopTree tree, Void p) {
        rule(9, Loops.ends(tree), "line " + line(tree) + " has no end that can be seen");
        return super.visitForLoop(tree, p);
    }

    @Override
    public Void visitWhileLoop(WhileLoopTree tree, Void p) {
        rule(9, Loops.ends(tree), "line " + line(tree) + " has no end that can be seen");
        return super.visitWhileLoop(tree, p);
    }

    @Override
    public Void visitDoWhileLoop(DoWhileLoopTree tree, Void p) {
        // the rules leave them, but Loops can't judge them: the class has none
        never(9, tree);
        return super.visitDoWhileLoop(tree, p);
    }

    @Override
    public Void visitThrow(ThrowTree tree, Void p) {
        never(6, tree);
        return super.visitThrow(tree, p);
    }

    @Override
    public Void visitTry(TryTree tree, Void p) {
        never(6, tree);
        return super.visitTry(tree, p);
    }

    @Override
    public Void visitSynchronized(SynchronizedTree tree, Void p) {
        never(6, tree);
        return super.visitSynchronized(tree, p);
    }

    @Override
    public Void visitAssert(AssertTree tree, Void p) {
        never(6, tree);
        return super.visitAssert(tree, p);
    }

    @Override
    public Void visitLambdaExpression(LambdaExpressionTree tree, Void p) {
        never(2, tree);
        return super.visitLambdaExpression(tree, p);
    }

    @Override
    public Void visitMemberReference(MemberReferenceTree tree, Void p) {
        never(2, tree);
        return super.visitMemberReference(tree, p);
    }
}
