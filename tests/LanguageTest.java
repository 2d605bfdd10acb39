import com.sun.source.tree.CompilationUnitTree;
import com.sun.source.tree.LineMap;
import com.sun.source.tree.MethodInvocationTree;
import com.sun.source.tree.MethodTree;
import com.sun.source.tree.NewArrayTree;
import com.sun.source.tree.NewClassTree;
import com.sun.source.tree.Tree;
import com.sun.source.tree.VariableTree;
import com.sun.source.util.JavacTask;
import com.sun.source.util.TreePathScanner;
import com.sun.source.util.Trees;
import java.nio.file.Path;
import java.util.List;
import java.util.Map;
import java.util.Set;
import java.util.TreeMap;
import java.util.TreeSet;
import javax.lang.model.element.Element;
import javax.lang.model.element.Modifier;
import javax.tools.JavaCompiler;
import javax.tools.StandardJavaFileManager;
import javax.tools.ToolProvider;

/**
 * LANGUAGE.md, as far as the compiler's own tree of the class can tell: what is called and how deep, what is made
 * and where, how long methods are. FaceTest looks at the face and at single words.
 */
public final class LanguageTest extends TreePathScanner<Void, String> {
    private static final int LINES = 60;
    private static final int DEEP = 8;
    private static final int WITHOUT_END = 1000;
    /** Rule 4, as far as the class has a use for it: hold a new one against the rule before it is put here. */
    private static final Set<String> LIBRARY = Set.of("java.lang.Math.min", "java.lang.Math.max",
        "java.lang.System.arraycopy", "java.util.Arrays.fill");
    /** Rules 2 and 6, and loops of which the class has no need (rule 9). */
    private static final Set<Tree.Kind> FORBIDDEN = Set.of(Tree.Kind.THROW, Tree.Kind.TRY, Tree.Kind.SYNCHRONIZED,
        Tree.Kind.ASSERT, Tree.Kind.LAMBDA_EXPRESSION, Tree.Kind.MEMBER_REFERENCE, Tree.Kind.SWITCH_EXPRESSION,
        Tree.Kind.WHILE_LOOP, Tree.Kind.DO_WHILE_LOOP, Tree.Kind.STRING_LITERAL, Tree.Kind.INSTANCE_OF);
    private static final Set<String> TYPES = Set.of("int", "long", "boolean", "int[]", "Sheet[]", "Text", "Triples",
        "Sheet", "Setting", "Course", "Choice", "Heats", "Lots");

    private final Trees trees;
    private final CompilationUnitTree unit;
    /** Of each method of the file, those of the file that it calls. */
    private final Map<String, Set<String>> calls = new TreeMap<>();

    private LanguageTest(Trees trees, CompilationUnitTree unit) {
        this.trees = trees;
        this.unit = unit;
    }

    public static void main(String[] args) throws Exception {
        JavaCompiler compiler = ToolProvider.getSystemJavaCompiler();
        try (StandardJavaFileManager files = compiler.getStandardFileManager(null, null, null)) {
            JavacTask task = (JavacTask) compiler.getTask(null, files, null, List.of("-proc:none"), null,
                    files.getJavaFileObjects(Path.of("src/main/java/BackHooks.java")));
            CompilationUnitTree unit = task.parse().iterator().next();
            task.analyze();
            LanguageTest test = new LanguageTest(Trees.instance(task), unit);
            test.scan(unit, "no method");
            test.depths();
        }
        Checks.end();
    }

    private static void holds(String rule, boolean so) {
        Checks.due(rule, 1, so ? 1 : 0);
    }

    private String place(Tree tree) {
        return " (line " + lineOf(trees.getSourcePositions().getStartPosition(unit, tree)) + ")";
    }

    private long lineOf(long position) {
        LineMap lines = unit.getLineMap();
        return position < 0 ? 0 : lines.getLineNumber(position);
    }

    /** A name with its class ahead of it. */
    private static String nameOf(Element e) {
        return e.getEnclosingElement() + "." + e.getSimpleName();
    }

    @Override
    public Void scan(Tree tree, String method) {
        if (tree != null && FORBIDDEN.contains(tree.getKind())) {
            holds("there is no " + tree.getKind() + place(tree), false);
        }
        return super.scan(tree, method);
    }

    @Override
    public Void visitMethod(MethodTree tree, String outside) {
        Element e = trees.getElement(getCurrentPath());
        String name = nameOf(e);
        // the constructors that javac puts in have no lines of their own
        long first = lineOf(trees.getSourcePositions().getStartPosition(unit, tree));
        long last = lineOf(trees.getSourcePositions().getEndPosition(unit, tree));
        holds("rule 11: " + name + " has some sixty lines at most", last - first < LINES);
        holds("rule 11: " + name + " takes seven numbers at most", tree.getParameters().size() <= 7);
        holds("no method is told twice: " + name, calls.put(name, new TreeSet<>()) == null);
        return super.visitMethod(tree, name);
    }

    @Override
    public Void visitMethodInvocation(MethodInvocationTree tree, String method) {
        Element called = trees.getElement(getCurrentPath());
        String name = nameOf(called);
        if (name.startsWith("BackHooks.")) {
            holds("it is known from where " + name + " is called", calls.containsKey(method));
            calls.getOrDefault(method, new TreeSet<>()).add(name);
        } else if (!name.equals("java.lang.Object.<init>")) {
            holds("rule 4: " + name + place(tree), LIBRARY.contains(name));
        }
        return super.visitMethodInvocation(tree, method);
    }

    @Override
    public Void visitVariable(VariableTree tree, String method) {
        String type = String.valueOf(tree.getType());
        holds("rule 3: " + type + " " + tree.getName() + place(tree), TYPES.contains(type));
        Element e = trees.getElement(getCurrentPath());
        if (e.getModifiers().contains(Modifier.STATIC)) {
            holds("rule 5: " + tree.getName() + " is a constant number", e.getModifiers().contains(Modifier.FINAL)
                    && (type.equals("int") || type.equals("long")) && tree.getInitializer() != null);
        }
        return super.visitVariable(tree, method);
    }

    @Override
    public Void visitNewArray(NewArrayTree tree, String method) {
        madeWithTheObject(tree, method);
        return super.visitNewArray(tree, method);
    }

    @Override
    public Void visitNewClass(NewClassTree tree, String method) {
        madeWithTheObject(tree, method);
        return super.visitNewClass(tree, method);
    }

    private void madeWithTheObject(Tree tree, String method) {
        holds("rule 12: made with the object" + place(tree), method.equals("no method") || method.endsWith(".<init>"));
    }

    /** Rule 11, and 8: a chain of calls is short; one that comes back to its start counts as far too long. */
    private void depths() {
        holds("the methods were seen", calls.size() > 37);
        Map<String, Integer> known = new TreeMap<>();
        for (String name : calls.keySet()) {
            int depth = depthOf(name, new TreeSet<>(), known);
            holds("rule 11: " + name + " goes " + depth + " deep", depth <= DEEP);
        }
    }

    private int depthOf(String name, Set<String> open, Map<String, Integer> known) {
        if (known.containsKey(name)) {
            return known.get(name);
        }
        open.add(name);
        int deepest = 0;
        for (String called : calls.getOrDefault(name, Set.of())) {
            deepest = Math.max(deepest, open.contains(called) ? WITHOUT_END : depthOf(called, open, known));
        }
        open.remove(name);
        known.put(name, deepest + 1);
        return deepest + 1;
    }
}
