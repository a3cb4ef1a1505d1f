import com.sun.source.tree.AssertTree;
import com.sun.source.tree.BinaryTree;
import com.sun.source.tree.ClassTree;
import com.sun.source.tree.CompilationUnitTree;
import com.sun.source.tree.CompoundAssignmentTree;
import com.sun.source.tree.ExpressionTree;
import com.sun.source.tree.LambdaExpressionTree;
import com.sun.source.tree.LiteralTree;
import com.sun.source.tree.MemberReferenceTree;
import com.sun.source.tree.MethodInvocationTree;
import com.sun.source.tree.MethodTree;
import com.sun.source.tree.NewArrayTree;
import com.sun.source.tree.NewClassTree;
import com.sun.source.tree.SynchronizedTree;
import com.sun.source.tree.ThrowTree;
import com.sun.source.tree.Tree;
import com.sun.source.tree.TryTree;
import com.sun.source.tree.VariableTree;
import com.sun.source.util.JavacTask;
import com.sun.source.util.SourcePositions;
import com.sun.source.util.TreePathScanner;
import com.sun.source.util.Trees;
import java.io.IOException;
import java.nio.file.Path;
import java.util.LinkedHashMap;
import java.util.List;
import java.util.Map;
import java.util.Set;
import java.util.TreeSet;
import javax.lang.model.element.Element;
import javax.lang.model.element.Modifier;
import javax.tools.JavaCompiler;
import javax.tools.StandardJavaFileManager;
import javax.tools.ToolProvider;

/** Rules of ../shared/LANGUAGE.md, looked for in the program as the compiler reads it. */
public final class LanguageTreeTest extends TreePathScanner<Void, Void> {

    private static final Path PROGRAM = Path.of("src/main/java/RehearsalRoom.java");
    private static final int MOST_CLASSES = 12;
    private static final int MOST_FIELDS = 20;
    private static final int MOST_PARAMETERS = 7;
    private static final int MOST_LINES = 60;
    private static final int DEEPEST_CALLS = 8;

    /** What the program calls of the library; what is put here must stand in rule 4. */
    private static final Set<String> LIBRARY = Set.of("Math.max", "Integer.bitCount", "Object.<init>");

    /** The row goes with rule 3: own classes are added while the program is read. */
    private static final Set<String> TYPES = new TreeSet<>(Set.of(
            "int", "long", "short", "byte", "char", "boolean", "double", "float", "String", "StringBuilder"));

    private static final Set<String> EXCEPTIONS = Set.of(
            "IllegalStateException", "IllegalArgumentException", "IndexOutOfBoundsException", "ArithmeticException",
            "UnsupportedOperationException", "NoSuchElementException", "RuntimeException");

    private static final Checks CHECKS = new Checks();

    private final Trees trees;
    private final CompilationUnitTree unit;
    private final Map<Element, Set<Element>> callsOf = new LinkedHashMap<>();
    private Element method = null;

    private LanguageTreeTest(Trees trees, CompilationUnitTree unit) {
        this.trees = trees;
        this.unit = unit;
    }

    public static void main(String[] args) throws IOException {
        JavaCompiler compiler = ToolProvider.getSystemJavaCompiler();
        try (StandardJavaFileManager files = compiler.getStandardFileManager(null, null, null)) {
            List<String> options = List.of("-proc:none", "-implicit:none");
            var task = (JavacTask) compiler.getTask(null, files, null, options, null, files.getJavaFileObjects(PROGRAM));
            CompilationUnitTree unit = task.parse().iterator().next();
            task.analyze();
            new LanguageTreeTest(Trees.instance(task), unit).go();
        }
        CHECKS.end();
    }

    private void go() {
        CHECKS.due("rule 1: imports", unit.getImports().size(), 0);
        CHECKS.due("rule 1: classes outside", unit.getTypeDecls().size(), 1);
        ClassTree room = (ClassTree) unit.getTypeDecls().get(0);
        int classes = 1;
        for (Tree member : room.getMembers()) {
            if (member instanceof ClassTree inside) {
                classes++;
                TYPES.add(inside.getSimpleName().toString());
                Set<Modifier> flags = inside.getModifiers().getFlags();
                none("rule 1: a class inside that is seen", inside,
                        flags.contains(Modifier.PUBLIC) || flags.contains(Modifier.PROTECTED));
                none("rule 1: a class inside that is not static", inside, !flags.contains(Modifier.STATIC));
            }
        }
        CHECKS.due("rule 11: at most 12 classes, not " + classes, classes > MOST_CLASSES, false);
        scan(unit, null);
        CHECKS.due("rule 11: methods that were read", callsOf.size() > 80, true);
        for (Element each : callsOf.keySet()) {
            int depth = depthFrom(each, new TreeSet<>());
            CHECKS.due("rule 11: " + each + " goes " + depth + " deep", depth > DEEPEST_CALLS, false);
        }
    }

    private void none(String rule, Tree tree, boolean broken) {
        SourcePositions positions = trees.getSourcePositions();
        long line = unit.getLineMap().getLineNumber(positions.getStartPosition(unit, tree));
        CHECKS.due(rule + ", line " + line, broken, false);
    }

    /** The longest chain of calls, this one counted; rule 8 lets a private static method call itself. */
    private int depthFrom(Element each, Set<String> open) {
        String name = each.getEnclosingElement() + "." + each;
        int deepest = 0;
        open.add(name);
        for (Element called : callsOf.getOrDefault(each, Set.of())) {
            Set<Modifier> flags = each.getModifiers();
            if (called.equals(each)) {
                CHECKS.due("rule 8: " + name + " calls itself and is private and static",
                        flags.contains(Modifier.PRIVATE) && flags.contains(Modifier.STATIC), true);
            } else if (open.contains(called.getEnclosingElement() + "." + called)) {
                CHECKS.due("rule 8: a circle of calls at " + name, true, false);
            } else {
                deepest = Math.max(deepest, depthFrom(called, open));
            }
        }
        open.remove(name);
        return deepest + 1;
    }

    @Override
    public Void visitClass(ClassTree tree, Void nothing) {
        int fields = 0;
        for (Tree member : tree.getMembers()) {
            none("rule 5: a static initialiser block", member, member.getKind() == Tree.Kind.BLOCK);
            if (member instanceof VariableTree field) {
                Set<Modifier> flags = field.getModifiers().getFlags();
                fields += flags.contains(Modifier.STATIC) ? 0 : 1;
                none("rule 5: a static field that is not final", field,
                        flags.contains(Modifier.STATIC) && !flags.contains(Modifier.FINAL));
            }
        }
        none("rule 11: more than 20 fields", tree, fields > MOST_FIELDS);
        return super.visitClass(tree, nothing);
    }

    @Override
    public Void visitMethod(MethodTree tree, Void nothing) {
        method = trees.getElement(getCurrentPath());
        callsOf.put(method, new java.util.LinkedHashSet<>());
        SourcePositions positions = trees.getSourcePositions();
        long first = unit.getLineMap().getLineNumber(positions.getStartPosition(unit, tree));
        long end = positions.getEndPosition(unit, tree);
        long last = end < 0 ? first : unit.getLineMap().getLineNumber(end);
        none("rule 11: more than 60 lines", tree, last - first + 1 > MOST_LINES);
        none("rule 11: more than seven parameters", tree, tree.getParameters().size() > MOST_PARAMETERS);
        none("rule 6: equals, hashCode or toString", tree,
                Set.of("equals", "hashCode", "toString").contains(tree.getName().toString()));
        super.visitMethod(tree, nothing);
        method = null;
        return null;
    }

    @Override
    public Void visitVariable(VariableTree tree, Void nothing) {
        String type = String.valueOf(tree.getType());
        none("rule 3: the type " + type, tree, !TYPES.contains(type.replaceFirst("\\[\\]$", "")));
        return super.visitVariable(tree, nothing);
    }

    @Override
    public Void visitMethodInvocation(MethodInvocationTree tree, Void nothing) {
        Element called = trees.getElement(getCurrentPath());
        if (isOwn(called)) {
            calls(called);
        } else {
            String name = called.getEnclosingElement().getSimpleName() + "." + called.getSimpleName();
            none("rule 4: " + name, tree, !LIBRARY.contains(name));
        }
        return super.visitMethodInvocation(tree, nothing);
    }

    private boolean isOwn(Element element) {
        return trees.getPath(element) != null;
    }

    private void calls(Element called) {
        if (method != null) {
            callsOf.get(method).add(called);
        }
    }

    @Override
    public Void visitNewClass(NewClassTree tree, Void nothing) {
        Element made = trees.getElement(getCurrentPath());
        String name = made.getEnclosingElement().getSimpleName().toString();
        boolean thrown = getCurrentPath().getParentPath().getLeaf() instanceof ThrowTree;
        if (thrown) {
            none("rule 6: throws " + name, tree, !EXCEPTIONS.contains(name));
            List<? extends ExpressionTree> texts = tree.getArguments();
            none("rule 6: no written text", tree,
                    texts.size() > 1 || texts.size() == 1 && !(texts.get(0) instanceof LiteralTree));
        } else {
            none("rule 3: makes " + name, tree, !isOwn(made));
            calls(made);
            dueInConstructor(tree);
        }
        return super.visitNewClass(tree, nothing);
    }

    @Override
    public Void visitNewArray(NewArrayTree tree, Void nothing) {
        dueInConstructor(tree);
        return super.visitNewArray(tree, nothing);
    }

    /** Or where a field is declared, for a call makes no object but for an exception. */
    private void dueInConstructor(Tree tree) {
        none("rule 12: a call that makes an object", tree,
                method != null && !method.getSimpleName().contentEquals("<init>"));
    }

    @Override
    public Void visitThrow(ThrowTree tree, Void nothing) {
        none("rule 6: throws something else than a new one", tree, !(tree.getExpression() instanceof NewClassTree));
        none("rule 6: a throw in a constructor", tree,
                method == null || method.getSimpleName().contentEquals("<init>"));
        return super.visitThrow(tree, nothing);
    }

    @Override
    public Void visitBinary(BinaryTree tree, Void nothing) {
        String type = trees.getTypeMirror(getCurrentPath()).toString();
        none("rule 10: joins texts by +", tree, type.endsWith("String"));
        return super.visitBinary(tree, nothing);
    }

    @Override
    public Void visitCompoundAssignment(CompoundAssignmentTree tree, Void nothing) {
        String type = trees.getTypeMirror(getCurrentPath()).toString();
        none("rule 10: joins texts by +=", tree, type.endsWith("String"));
        return super.visitCompoundAssignment(tree, nothing);
    }

    @Override
    public Void visitTry(TryTree tree, Void nothing) {
        none("a try: the program has no need of one", tree, true);
        return super.visitTry(tree, nothing);
    }

    @Override
    public Void visitLambdaExpression(LambdaExpressionTree tree, Void nothing) {
        none("rule 2: a lambda", tree, true);
        return super.visitLambdaExpression(tree, nothing);
    }

    @Override
    public Void visitMemberReference(MemberReferenceTree tree, Void nothing) {
        none("rule 2: a method reference", tree, true);
        return super.visitMemberReference(tree, nothing);
    }

    @Override
    public Void visitSynchronized(SynchronizedTree tree, Void nothing) {
        none("rule 6: synchronized", tree, true);
        return super.visitSynchronized(tree, nothing);
    }

    @Override
    public Void visitAssert(AssertTree tree, Void nothing) {
        none("rule 6: assert", tree, true);
        return super.visitAssert(tree, nothing);
    }
}
