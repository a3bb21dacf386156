import com.sun.source.tree.BinaryTree;
import com.sun.source.tree.ClassTree;
import com.sun.source.tree.CompilationUnitTree;
import com.sun.source.tree.ExpressionTree;
import com.sun.source.tree.MethodInvocationTree;
import com.sun.source.tree.MethodTree;
import com.sun.source.tree.NewClassTree;
import com.sun.source.tree.Tree;
import com.sun.source.tree.Tree.Kind;
import com.sun.source.tree.VariableTree;
import com.sun.source.util.JavacTask;
import com.sun.source.util.TreePath;
import com.sun.source.util.TreePathScanner;
import com.sun.source.util.Trees;
import java.io.File;
import java.io.IOException;
import java.util.ArrayDeque;
import java.util.Deque;
import java.util.HashMap;
import java.util.LinkedHashMap;
import java.util.LinkedHashSet;
import java.util.List;
import java.util.Map;
import java.util.Set;
import javax.lang.model.element.Element;
import javax.lang.model.element.ElementKind;
import javax.lang.model.element.Modifier;
import javax.lang.model.element.TypeElement;
import javax.tools.JavaCompiler;
import javax.tools.JavaFileObject;
import javax.tools.StandardJavaFileManager;
import javax.tools.ToolProvider;

/** The rules of ../shared/LANGUAGE.md, seen in the class as the compiler reads it; the number is the rule's. */
public final class LanguageTest extends TreePathScanner<Void, Void> {
    private static final Set<Kind> FORBIDDEN = Set.of(Kind.LAMBDA_EXPRESSION, Kind.MEMBER_REFERENCE, Kind.THROW, Kind.TRY, Kind.CATCH,
            Kind.SYNCHRONIZED, Kind.ASSERT, Kind.ANNOTATION, Kind.NULL_LITERAL, Kind.UNBOUNDED_WILDCARD, Kind.SWITCH_EXPRESSION);
    private static final Set<String> LIBRARY = Set.of("java.lang.Object.<init>", "java.lang.String.length", "java.lang.String.charAt",
            "java.lang.Math.max", "java.util.Arrays.fill");
    /** Methods that call one another on purpose: their depth is told by a guard of their own. */
    private static final Set<Set<String>> RECURSIONS = Set.of(Set.of("softens"), Set.of("readSome", "readOne", "readDeeper"));

    private final Trees trees;
    private final CompilationUnitTree unit;
    private final Deque<Element> inside = new ArrayDeque<>();
    private final Map<Element, Set<Element>> calls = new LinkedHashMap<>();
    private int classes = 0;

    private LanguageTest(Trees known, CompilationUnitTree read) {
        trees = known;
        unit = read;
    }

    public static void main(String[] args) throws IOException {
        JavaCompiler compiler = ToolProvider.getSystemJavaCompiler();
        try (StandardJavaFileManager files = compiler.getStandardFileManager(null, null, null)) {
            Iterable<? extends JavaFileObject> sources = files.getJavaFileObjects(new File("src/main/java/IfYouWill.java"));
            JavacTask task = (JavacTask) compiler.getTask(null, files, null, List.of("--release", "17", "-proc:none"), null, sources);
            CompilationUnitTree unit = task.parse().iterator().next();
            task.analyze();
            LanguageTest test = new LanguageTest(Trees.instance(task), unit);
            test.scan(unit, null);
            test.afterAll();
        }
        Check.end("LanguageTest");
    }

    private void afterAll() {
        due("no package", unit.getPackageName() == null);
        due("11: some twelve classes: " + classes, classes <= 12);
        due("methods were found", calls.size() > 80);
        recursions();
        for (Element method : calls.keySet()) {
            int deep = depth(method, new HashMap<>());
            due("11: eight deep at most, not " + deep + ": " + name(method), deep <= 8);
        }
    }

    // ---- what each part of the class is

    @Override
    public Void scan(Tree tree, Void none) {
        if (tree != null) {
            due("no " + tree.getKind() + " at line " + line(tree), !FORBIDDEN.contains(tree.getKind()));
        }
        return super.scan(tree, none);
    }

    @Override
    public Void visitClass(ClassTree tree, Void none) {
        classes++;
        boolean outer = classes == 1;
        Set<Modifier> marks = tree.getModifiers().getFlags();
        due("1: public and final", !outer || marks.containsAll(Set.of(Modifier.PUBLIC, Modifier.FINAL)));
        due("2: static: " + tree.getSimpleName(), outer || marks.contains(Modifier.STATIC) && tree.getSimpleName().length() > 0);
        long fields = tree.getMembers().stream().filter(LanguageTest::isField).count();
        due("11: some twenty fields: " + tree.getSimpleName(), fields <= 20);
        return super.visitClass(tree, none);
    }

    private static boolean isField(Tree tree) {
        return tree instanceof VariableTree field && !field.getModifiers().getFlags().contains(Modifier.STATIC);
    }

    @Override
    public Void visitVariable(VariableTree tree, Void none) {
        Element variable = trees.getElement(getCurrentPath());
        Set<Modifier> marks = variable.getModifiers();
        boolean fixed = marks.contains(Modifier.FINAL) && variable.asType().toString().equals("int");
        due("5: no static state: " + variable, !marks.contains(Modifier.STATIC) || fixed);
        due("3: a type is told: " + variable, tree.getType() != null);
        return super.visitVariable(tree, none);
    }

    @Override
    public Void visitMethod(MethodTree tree, Void none) {
        Element method = trees.getElement(getCurrentPath());
        due("11: seven parameters at most: " + name(method), tree.getParameters().size() <= 7);
        long lines = unit.getLineMap().getLineNumber(trees.getSourcePositions().getEndPosition(unit, tree)) - line(tree) + 1;
        due("11: some sixty lines: " + name(method), lines <= 60);
        calls.put(method, new LinkedHashSet<>());
        inside.push(method);
        super.visitMethod(tree, none);
        inside.pop();
        return null;
    }

    @Override
    public Void visitMethodInvocation(MethodInvocationTree tree, Void none) {
        note(trees.getElement(getCurrentPath()));
        return super.visitMethodInvocation(tree, none);
    }

    @Override
    public Void visitNewClass(NewClassTree tree, Void none) {
        note(trees.getElement(getCurrentPath()));
        due("12: objects are made by constructors and fields alone, line " + line(tree),
                inside.isEmpty() || inside.peek().getKind() == ElementKind.CONSTRUCTOR);
        return super.visitNewClass(tree, none);
    }

    @Override
    public Void visitBinary(BinaryTree tree, Void none) {
        due("10: no text joined by +, line " + line(tree), tree.getKind() != Kind.PLUS || !isText(tree.getLeftOperand()) && !isText(tree.getRightOperand()));
        due("6: texts are not compared by ==, line " + line(tree),
                tree.getKind() != Kind.EQUAL_TO && tree.getKind() != Kind.NOT_EQUAL_TO || !isText(tree.getLeftOperand()));
        return super.visitBinary(tree, none);
    }

    private boolean isText(ExpressionTree tree) {
        return String.valueOf(trees.getTypeMirror(new TreePath(getCurrentPath(), tree))).equals("java.lang.String");
    }

    private void note(Element called) {
        TypeElement owner = (TypeElement) called.getEnclosingElement();
        boolean own = owner.getQualifiedName().toString().startsWith("IfYouWill");
        due("4: " + owner + "." + called.getSimpleName(), own || LIBRARY.contains(owner + "." + called.getSimpleName()));
        if (own && !inside.isEmpty()) {
            calls.get(inside.peek()).add(called);
        }
    }

    // ---- who calls whom

    /** Which methods come back to themselves: just those that are known, and no public one. */
    private void recursions() {
        for (Element method : calls.keySet()) {
            Set<Element> reached = new LinkedHashSet<>();
            for (Element called : calls.get(method)) {
                reach(called, reached);
            }
            String simple = method.getSimpleName().toString();
            boolean known = RECURSIONS.stream().anyMatch(together -> together.contains(simple));
            due("8: calls itself: " + name(method), reached.contains(method) == known);
            due("8: is private: " + name(method), !known || method.getModifiers().contains(Modifier.PRIVATE));
        }
    }

    private void reach(Element method, Set<Element> reached) {
        if (reached.add(method)) {
            calls.getOrDefault(method, Set.of()).forEach(called -> reach(called, reached));
        }
    }

    /** How many calls stand open at once, at most, below and with a method; one that comes again counts once. */
    private int depth(Element method, Map<Element, Boolean> open) {
        int deepest = 0;
        open.put(method, true);
        for (Element called : calls.getOrDefault(method, Set.of())) {
            if (!open.getOrDefault(called, false)) {
                deepest = Math.max(deepest, depth(called, open));
            }
        }
        open.put(method, false);
        return deepest + 1;
    }

    // ---- telling

    private long line(Tree tree) {
        return unit.getLineMap().getLineNumber(trees.getSourcePositions().getStartPosition(unit, tree));
    }

    private static String name(Element method) {
        return method.getEnclosingElement().getSimpleName() + "." + method.getSimpleName();
    }

    private static void due(String what, boolean is) {
        Check.due(what, is ? 1 : 0, 1);
    }
}
