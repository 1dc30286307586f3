import com.sun.source.tree.AssertTree;
import com.sun.source.tree.ClassTree;
import com.sun.source.tree.CompilationUnitTree;
import com.sun.source.tree.DoWhileLoopTree;
import com.sun.source.tree.ForLoopTree;
import com.sun.source.tree.LambdaExpressionTree;
import com.sun.source.tree.LineMap;
import com.sun.source.tree.MemberReferenceTree;
import com.sun.source.tree.MethodInvocationTree;
import com.sun.source.tree.MethodTree;
import com.sun.source.tree.NewArrayTree;
import com.sun.source.tree.NewClassTree;
import com.sun.source.tree.SynchronizedTree;
import com.sun.source.tree.ThrowTree;
import com.sun.source.tree.Tree;
import com.sun.source.tree.TryTree;
import com.sun.source.tree.VariableTree;
import com.sun.source.tree.WhileLoopTree;
import com.sun.source.util.JavacTask;
import com.sun.source.util.TreePathScanner;
import com.sun.source.util.Trees;
import java.io.IOException;
import java.nio.file.Path;
import java.util.HashMap;
import java.util.HashSet;
import java.util.LinkedHashMap;
import java.util.List;
import java.util.Map;
import java.util.Set;
import javax.lang.model.element.Element;
import javax.lang.model.element.ExecutableElement;
import javax.lang.model.element.Modifier;
import javax.lang.model.element.VariableElement;
import javax.tools.JavaCompiler;
import javax.tools.StandardJavaFileManager;
import javax.tools.ToolProvider;

/** The class's file against the rules of LANGUAGE.md that its syntax tree shows; FaceTest has rule 1. */
public final class LanguageTest extends TreePathScanner<Void, Void> {
    /** The part of rule 4's library that the class may be seen to use. */
    private static final Set<String> LIBRARY = Set.of("java.util.Arrays.fill", "java.util.Arrays.copyOf",
            "java.util.Arrays.copyOfRange", "java.lang.System.arraycopy", "java.lang.Math.max", "java.lang.Math.min",
            "java.lang.Math.abs", "java.lang.Math.floorDiv", "java.lang.Math.floorMod");
    private static final Set<String> TYPES = Set.of("void", "int", "long", "short", "byte", "char", "boolean");
    private static final int MOST_LINES = 60;
    private static final int MOST_PARAMETERS = 7;
    private static final int MOST_CLASSES = 12;
    private static final int MOST_FIELDS = 20;
    private static final int MOST_DEPTH = 8;

    private static int wrong = 0;

    private final Trees trees;
    private final CompilationUnitTree unit;
    private final Set<Element> classes = new HashSet<>();
    private final Map<Element, Set<Element>> calls = new LinkedHashMap<>();
    private Element method;

    private LanguageTest(Trees trees, CompilationUnitTree unit) {
        this.trees = trees;
        this.unit = unit;
    }

    public static void main(String[] args) throws IOException {
        JavaCompiler compiler = ToolProvider.getSystemJavaCompiler();
        try (StandardJavaFileManager files = compiler.getStandardFileManager(null, null, null)) {
            JavacTask task = (JavacTask) compiler.getTask(null, files, null, List.of("-proc:none"), null,
                    files.getJavaFileObjects(Path.of(args[0])));
            CompilationUnitTree unit = task.parse().iterator().next();
            task.analyze();
            LanguageTest test = new LanguageTest(Trees.instance(task), unit);
            due(1, "no package", unit.getPackage() == null);
            due(1, "one class in the file", unit.getTypeDecls().size() == 1);
            test.scan(unit, null);
            due(11, "twelve classes at most", test.classes.size() <= MOST_CLASSES);
            test.depths();
        }
        System.out.println(wrong == 0 ? "the file keeps to the language" : wrong + " faults against the language");
        if (wrong != 0) {
            System.exit(1);
        }
    }

    @Override
    public Void visitClass(ClassTree tree, Void none) {
        classes.add(element(tree));
        due(2, tree.getSimpleName() + " is a class in the class itself", method == null);
        due(2, tree.getSimpleName() + " is static", classes.size() == 1
                || element(tree).getModifiers().contains(Modifier.STATIC));
        due(5, tree.getSimpleName() + " has no initialiser block",
                tree.getMembers().stream().noneMatch(member -> member.getKind() == Tree.Kind.BLOCK));
        long fields = tree.getMembers().stream().filter(member -> member instanceof VariableTree)
                .filter(member -> !element(member).getModifiers().contains(Modifier.STATIC)).count();
        due(11, tree.getSimpleName() + " has twenty fields at most", fields <= MOST_FIELDS);
        return super.visitClass(tree, none);
    }

    @Override
    public Void visitMethod(MethodTree tree, Void none) {
        method = element(tree);
        calls.putIfAbsent(method, new HashSet<>());
        due(11, named() + " has seven parameters at most", tree.getParameters().size() <= MOST_PARAMETERS);
        due(11, named() + " has sixty lines at most", lines(tree) <= MOST_LINES);
        due(6, named() + " declares no exception", tree.getThrows().isEmpty());
        due(3, named() + " answers a type of the language",
                tree.getReturnType() == null || isOfLanguage(tree.getReturnType()));
        super.visitMethod(tree, none);
        method = null;
        return null;
    }

    @Override
    public Void visitVariable(VariableTree tree, Void none) {
        due(3, tree + " has a type of the language", isOfLanguage(tree.getType()));
        VariableElement variable = (VariableElement) element(tree);
        if (variable.getModifiers().contains(Modifier.STATIC)) {
            due(5, tree + " is a constant", variable.getConstantValue() != null);
        }
        return super.visitVariable(tree, none);
    }

    @Override
    public Void visitMethodInvocation(MethodInvocationTree tree, Void none) {
        note((ExecutableElement) trees.getElement(getCurrentPath()));
        return super.visitMethodInvocation(tree, none);
    }

    @Override
    public Void visitNewClass(NewClassTree tree, Void none) {
        due(2, tree + " has no body", tree.getClassBody() == null);
        due(12, tree + " is made in a constructor", isConstructor());
        note((ExecutableElement) trees.getElement(getCurrentPath()));
        return super.visitNewClass(tree, none);
    }

    @Override
    public Void visitNewArray(NewArrayTree tree, Void none) {
        due(12, tree + " is made in a constructor", isConstructor());
        return super.visitNewArray(tree, none);
    }

    @Override
    public Void visitForLoop(ForLoopTree tree, Void none) {
        due(9, "a bound and a step in for (" + tree.getCondition() + ")",
                tree.getCondition() != null && tree.getUpdate().size() == 1);
        return super.visitForLoop(tree, none);
    }

    @Override
    public Void visitWhileLoop(WhileLoopTree tree, Void none) {
        due(9, "a counter in while " + tree.getCondition(), false);
        return super.visitWhileLoop(tree, none);
    }

    @Override
    public Void visitDoWhileLoop(DoWhileLoopTree tree, Void none) {
        due(9, "a counter in do while " + tree.getCondition(), false);
        return super.visitDoWhileLoop(tree, none);
    }

    @Override
    public Void visitLambdaExpression(LambdaExpressionTree tree, Void none) {
        due(2, "no lambda: " + tree, false);
        return super.visitLambdaExpression(tree, none);
    }

    @Override
    public Void visitMemberReference(MemberReferenceTree tree, Void none) {
        due(2, "no method reference: " + tree, false);
        return super.visitMemberReference(tree, none);
    }

    /** The document names no exception, so the class needs none. */
    @Override
    public Void visitThrow(ThrowTree tree, Void none) {
        due(6, "no throw: " + tree, false);
        return super.visitThrow(tree, none);
    }

    @Override
    public Void visitTry(TryTree tree, Void none) {
        due(6, "no try: " + tree, false);
        return super.visitTry(tree, none);
    }

    @Override
    public Void visitSynchronized(SynchronizedTree tree, Void none) {
        due(6, "no synchronized: " + tree, false);
        return super.visitSynchronized(tree, none);
    }

    @Override
    public Void visitAssert(AssertTree tree, Void none) {
        due(6, "no assert: " + tree, false);
        return super.visitAssert(tree, none);
    }

    /** A call of an own method is kept for the depths, any other must be in the library. */
    private void note(ExecutableElement called) {
        String owner = called.getEnclosingElement().toString();
        if (owner.equals("StructureFinder") || owner.startsWith("StructureFinder.")) {
            due(8, called + " is called by a method", method != null);
            calls.computeIfAbsent(method, none -> new HashSet<>()).add(called);
        } else if (!owner.equals("java.lang.Object") || !called.getSimpleName().contentEquals("<init>")) {
            due(4, owner + "." + called.getSimpleName() + " is in the library",
                    LIBRARY.contains(owner + "." + called.getSimpleName()));
        }
    }

    private void depths() {
        Map<Element, Integer> known = new HashMap<>();
        for (Element begun : calls.keySet()) {
            int depth = depth(begun, new HashSet<>(), known);
            due(11, begun + " goes eight calls deep at most, not " + depth, depth <= MOST_DEPTH);
        }
    }

    private int depth(Element begun, Set<Element> open, Map<Element, Integer> known) {
        if (known.containsKey(begun)) {
            return known.get(begun);
        }
        if (!open.add(begun)) {
            due(8, begun + " does not call itself", false);
            return 1;
        }
        int deepest = 0;
        for (Element called : calls.getOrDefault(begun, Set.of())) {
            deepest = Math.max(deepest, depth(called, open, known));
        }
        open.remove(begun);
        known.put(begun, deepest + 1);
        return deepest + 1;
    }

    private boolean isOfLanguage(Tree type) {
        String name = type.toString();
        String single = name.endsWith("[]") ? name.substring(0, name.length() - 2) : name;
        ClassTree outer = (ClassTree) unit.getTypeDecls().get(0);
        return TYPES.contains(single) || outer.getMembers().stream().anyMatch(member -> member instanceof ClassTree
                && ((ClassTree) member).getSimpleName().contentEquals(single));
    }

    private boolean isConstructor() {
        return method != null && method.getSimpleName().contentEquals("<init>");
    }

    private long lines(MethodTree tree) {
        LineMap map = unit.getLineMap();
        long first = map.getLineNumber(trees.getSourcePositions().getStartPosition(unit, tree));
        return map.getLineNumber(trees.getSourcePositions().getEndPosition(unit, tree)) - first + 1;
    }

    private Element element(Tree tree) {
        return trees.getElement(trees.getPath(unit, tree));
    }

    private String named() {
        return method.getEnclosingElement().getSimpleName() + "." + method;
    }

    private static void due(int rule, String what, boolean holds) {
        if (!holds) {
            wrong++;
            System.out.println("rule " + rule + ", not so: " + what);
        }
    }
}
