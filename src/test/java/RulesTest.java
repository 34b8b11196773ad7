import com.sun.source.tree.ClassTree;
import com.sun.source.tree.CompilationUnitTree;
import com.sun.source.tree.MethodInvocationTree;
import com.sun.source.tree.MethodTree;
import com.sun.source.tree.NewArrayTree;
import com.sun.source.tree.NewClassTree;
import com.sun.source.tree.Tree;
import com.sun.source.tree.TypeCastTree;
import com.sun.source.tree.VariableTree;
import com.sun.source.util.JavacTask;
import com.sun.source.util.TreePath;
import com.sun.source.util.TreePathScanner;
import com.sun.source.util.Trees;
import java.io.IOException;
import java.nio.file.Path;
import java.util.ArrayList;
import java.util.HashSet;
import java.util.List;
import java.util.Map;
import java.util.Set;
import java.util.TreeMap;
import java.util.TreeSet;
import javax.lang.model.element.Element;
import javax.lang.model.element.Modifier;
import javax.tools.JavaCompiler;
import javax.tools.StandardJavaFileManager;
import javax.tools.ToolProvider;

/** What LANGUAGE.md counts and lists, as the compiler reads the program; it is run in the project's folder. */
public final class RulesTest extends TreePathScanner<Void, Void> {
    private static final Check CHECK = new Check("RulesTest");
    private static final Path PROGRAM = Path.of("src/main/java/DodgingHangman.java");
    private static final int DEEPEST = 8;
    private static final int MOST_PARAMETERS = 7;
    private static final int MOST_LINES = 60;
    private static final int MOST_CLASSES = 12;
    private static final int MOST_FIELDS = 20;
    /** The part of rule 4's library that the program has taken; what is added here must stand in that rule. */
    private static final Set<String> LIBRARY = Set.of("java.lang.Integer.bitCount(int)", "java.lang.Math.min(int,int)",
            "java.lang.System.arraycopy(java.lang.Object,int,java.lang.Object,int,int)");
    private static final Set<String> NUMBERS = Set.of("int", "long", "short", "byte", "char", "boolean");

    private final Trees trees;
    private final CompilationUnitTree unit;
    private final Set<String> classes = new TreeSet<>();
    private final Map<String, Set<String>> callsOf = new TreeMap<>();
    private String caller = "";

    private RulesTest(Trees trees, CompilationUnitTree unit) {
        this.trees = trees;
        this.unit = unit;
    }

    public static void main(String[] args) throws IOException {
        JavaCompiler compiler = ToolProvider.getSystemJavaCompiler();
        try (StandardJavaFileManager files = compiler.getStandardFileManager(null, null, null)) {
            JavacTask task = (JavacTask) compiler.getTask(null, files, null, List.of("-proc:none"), null,
                    files.getJavaFileObjects(PROGRAM));
            for (CompilationUnitTree unit : task.parse()) {
                task.analyze();
                RulesTest rules = new RulesTest(Trees.instance(task), unit);
                CHECK.due("rule 1: classes beside the program's", unit.getTypeDecls().size(), 1);
                rules.scan(unit, null);
                rules.judge();
            }
        }
        CHECK.end();
    }

    private void judge() {
        CHECK.holds("rule 11: classes: " + classes, classes.size() <= MOST_CLASSES);
        CHECK.holds("the compiler told the methods: " + callsOf.size(), callsOf.size() > 29);
        for (String method : callsOf.keySet()) {
            List<String> deepest = deepestFrom(method, new HashSet<>());
            CHECK.holds("rule 11: calls at most " + DEEPEST + " deep: " + deepest, deepest.size() <= DEEPEST);
        }
    }

    /** The longest chain of calls from a method on: the method itself counts, and one of the library at the end. */
    private List<String> deepestFrom(String method, Set<String> open) {
        if (!open.add(method)) {
            CHECK.holds("no method calls itself, as the document needs none: " + method, false);
            return List.of(method);
        }
        List<String> longest = List.of();
        for (String called : callsOf.getOrDefault(method, Set.of())) {
            List<String> chain = deepestFrom(called, open);
            longest = chain.size() > longest.size() ? chain : longest;
        }
        open.remove(method);
        List<String> whole = new ArrayList<>(List.of(method));
        whole.addAll(longest);
        return whole;
    }

    @Override
    public Void visitClass(ClassTree tree, Void none) {
        String name = tree.getSimpleName().toString();
        classes.add(name);
        Tree.Kind around = getCurrentPath().getParentPath().getLeaf().getKind();
        CHECK.holds("rule 2: a class with a name, in the file or a class: " + name,
                !name.isEmpty() && (around == Tree.Kind.CLASS || around == Tree.Kind.COMPILATION_UNIT));
        CHECK.holds("rule 2: a static class: " + name,
                around == Tree.Kind.COMPILATION_UNIT || tree.getModifiers().getFlags().contains(Modifier.STATIC));
        long fields = tree.getMembers().stream().filter(member -> member instanceof VariableTree)
                .filter(member -> !isStatic((VariableTree) member)).count();
        CHECK.holds("rule 11: fields of " + name + ": " + fields, fields <= MOST_FIELDS);
        return super.visitClass(tree, none);
    }

    @Override
    public Void visitMethod(MethodTree tree, Void none) {
        String before = caller;
        caller = nameOf(getCurrentPath());
        callsOf.putIfAbsent(caller, new TreeSet<>());
        long lines = lineOf(trees.getSourcePositions().getEndPosition(unit, tree))
                - lineOf(trees.getSourcePositions().getStartPosition(unit, tree)) + 1;
        CHECK.holds("rule 11: lines of " + caller + ": " + lines, lines <= MOST_LINES);
        CHECK.holds("rule 11: parameters of " + caller, tree.getParameters().size() <= MOST_PARAMETERS);
        super.visitMethod(tree, none);
        caller = before;
        return null;
    }

    @Override
    public Void visitMethodInvocation(MethodInvocationTree tree, Void none) {
        noteCall(getCurrentPath());
        return super.visitMethodInvocation(tree, none);
    }

    @Override
    public Void visitNewClass(NewClassTree tree, Void none) {
        noteCall(getCurrentPath());
        return super.visitNewClass(tree, none);
    }

    private void noteCall(TreePath path) {
        String called = nameOf(path);
        boolean own = called.startsWith("DodgingHangman.");
        boolean ofEachClass = called.equals("java.lang.Object.Object()");
        CHECK.holds("rule 4: the library's " + called, own || ofEachClass || LIBRARY.contains(called));
        if (!caller.isEmpty() && !ofEachClass) {
            callsOf.get(caller).add(called);
        }
    }

    @Override
    public Void visitVariable(VariableTree tree, Void none) {
        String type = tree.getType().toString();
        String of = type.replace("[]", "");
        int dimensions = (type.length() - of.length()) / 2;
        boolean isOwn = trees.getTypeMirror(new TreePath(getCurrentPath(), tree.getType())).toString()
                .startsWith("DodgingHangman.");
        CHECK.holds("rule 3: the type of " + tree, dimensions <= 1 && (NUMBERS.contains(of) || isOwn));
        boolean isField = getCurrentPath().getParentPath().getLeaf() instanceof ClassTree;
        if (isField && isStatic(tree)) {
            CHECK.holds("rule 5: a static field is a constant number: " + tree,
                    tree.getModifiers().getFlags().contains(Modifier.FINAL) && NUMBERS.contains(type));
        }
        return super.visitVariable(tree, none);
    }

    @Override
    public Void visitNewArray(NewArrayTree tree, Void none) {
        CHECK.holds("rows are made with the object: " + tree, caller.isEmpty());
        for (Tree length : tree.getDimensions()) {
            CHECK.holds("a row's length is a constant: " + tree, length.toString().matches("[A-Z_]+"));
        }
        return super.visitNewArray(tree, none);
    }

    @Override
    public Void visitTypeCast(TypeCastTree tree, Void none) {
        CHECK.holds("rule 6: a cast among numbers: " + tree, NUMBERS.contains(tree.getType().toString()));
        return super.visitTypeCast(tree, none);
    }

    private static boolean isStatic(VariableTree field) {
        return field.getModifiers().getFlags().contains(Modifier.STATIC);
    }

    private String nameOf(TreePath path) {
        Element method = trees.getElement(path);
        return method.getEnclosingElement() + "." + method.toString()
                .replaceFirst("^<init>", method.getEnclosingElement().getSimpleName().toString());
    }

    private long lineOf(long position) {
        return unit.getLineMap().getLineNumber(position);
    }
}
