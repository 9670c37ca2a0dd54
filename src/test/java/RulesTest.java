import com.sun.source.tree.BinaryTree;
import com.sun.source.tree.ClassTree;
import com.sun.source.tree.CompilationUnitTree;
import com.sun.source.tree.CompoundAssignmentTree;
import com.sun.source.tree.MethodInvocationTree;
import com.sun.source.tree.MethodTree;
import com.sun.source.tree.NewArrayTree;
import com.sun.source.tree.NewClassTree;
import com.sun.source.tree.Tree;
import com.sun.source.tree.VariableTree;
import com.sun.source.util.JavacTask;
import com.sun.source.util.TreePathScanner;
import com.sun.source.util.Trees;
import java.io.IOException;
import java.nio.file.Path;
import java.util.ArrayList;
import java.util.HashMap;
import java.util.HashSet;
import java.util.List;
import java.util.Map;
import java.util.Set;
import javax.lang.model.element.Element;
import javax.lang.model.element.ElementKind;
import javax.lang.model.element.Modifier;
import javax.lang.model.type.ArrayType;
import javax.lang.model.type.TypeMirror;
import javax.tools.JavaCompiler;
import javax.tools.StandardJavaFileManager;
import javax.tools.ToolProvider;

/** The rules of ../shared/LANGUAGE.md that can be read off the compiler's own tree of the class. */
public final class RulesTest extends TreePathScanner<Void, Void> {
    private static final Path SOURCE = Path.of("src", "main", "java", "PointerHouse.java");
    private static final int MOST_LINES = 60;
    private static final int MOST_DEEP = 8;
    private static final Set<String> STRING_METHODS =
            Set.of("length", "charAt", "isEmpty", "equals", "indexOf", "substring", "toCharArray");
    private static final Set<String> ARRAYS_METHODS = Set.of("copyOf", "copyOfRange", "fill");
    private static final Set<Tree.Kind> FORBIDDEN = Set.of(Tree.Kind.THROW, Tree.Kind.TRY, Tree.Kind.CATCH,
            Tree.Kind.SYNCHRONIZED, Tree.Kind.ASSERT, Tree.Kind.LAMBDA_EXPRESSION, Tree.Kind.MEMBER_REFERENCE,
            Tree.Kind.SWITCH_EXPRESSION, Tree.Kind.YIELD, Tree.Kind.ANNOTATION);

    private final Trees trees;
    private final CompilationUnitTree unit;
    /* Whom each method calls; a constructor goes by the name of its class. */
    private final Map<Element, Set<Element>> calls = new HashMap<>();
    private final Set<Element> publicMethods = new HashSet<>();
    private Element method;

    private RulesTest(Trees trees, CompilationUnitTree unit) {
        this.trees = trees;
        this.unit = unit;
    }

    public static void main(String[] args) throws IOException {
        JavaCompiler compiler = ToolProvider.getSystemJavaCompiler();
        try (StandardJavaFileManager files = compiler.getStandardFileManager(null, null, null)) {
            JavacTask task = (JavacTask) compiler.getTask(null, files, null, List.of("-proc:none"), null,
                    files.getJavaFileObjects(SOURCE));
            CompilationUnitTree unit = task.parse().iterator().next();
            task.analyze();
            RulesTest rules = new RulesTest(Trees.instance(task), unit);
            House.sentence("Rules 2 to 6, 10 to 12: what may stand in the file");
            rules.scan(unit, null);
            House.sentence("Rule 11: calls that are no recursion go at most eight deep");
            rules.depths();
        }
        House.finish();
    }

    private void forbid(boolean bad, String what, Tree at) {
        long start = trees.getSourcePositions().getStartPosition(unit, at);
        House.due(what + " in line " + unit.getLineMap().getLineNumber(start), false, bad);
    }

    private long lineOf(long position) {
        return unit.getLineMap().getLineNumber(position);
    }

    private static boolean isOwn(Element e) {
        return e != null && e.toString().startsWith("PointerHouse");
    }

    @Override
    public Void scan(Tree tree, Void unused) {
        if (tree != null && FORBIDDEN.contains(tree.getKind())) {
            forbid(true, tree.getKind().toString(), tree);
        }
        return super.scan(tree, unused);
    }

    @Override
    public Void visitClass(ClassTree tree, Void unused) {
        Element e = trees.getElement(getCurrentPath());
        boolean outer = e.getEnclosingElement().getKind() == ElementKind.PACKAGE;
        forbid(tree.getSimpleName().isEmpty(), "a class without a name", tree);
        forbid(!outer && !e.getModifiers().contains(Modifier.STATIC), "an inner class", tree);
        return super.visitClass(tree, unused);
    }

    @Override
    public Void visitMethod(MethodTree tree, Void unused) {
        method = trees.getElement(getCurrentPath());
        calls.put(method, new HashSet<>());
        if (method.getModifiers().contains(Modifier.PUBLIC)) {
            publicMethods.add(method);
        }
        long start = trees.getSourcePositions().getStartPosition(unit, tree);
        long end = trees.getSourcePositions().getEndPosition(unit, tree);
        forbid(lineOf(end) - lineOf(start) >= MOST_LINES, "a long method, " + tree.getName() + ",", tree);
        forbid(tree.getParameters().size() > 7, "more than seven parameters", tree);
        super.visitMethod(tree, unused);
        method = null;
        return null;
    }

    @Override
    public Void visitVariable(VariableTree tree, Void unused) {
        Element e = trees.getElement(getCurrentPath());
        TypeMirror type = e.asType();
        TypeMirror inner = type instanceof ArrayType ? ((ArrayType) type).getComponentType() : type;
        boolean known = inner.getKind().isPrimitive() || inner.toString().startsWith("PointerHouse")
                || inner.toString().equals("java.lang.String");
        forbid(!known, "the type " + type, tree);
        if (e.getKind() == ElementKind.FIELD && e.getModifiers().contains(Modifier.STATIC)) {
            forbid(!e.getModifiers().contains(Modifier.FINAL) || type != inner, "static state", tree);
        }
        return super.visitVariable(tree, unused);
    }

    @Override
    public Void visitMethodInvocation(MethodInvocationTree tree, Void unused) {
        Element called = trees.getElement(getCurrentPath());
        String owner = called.getEnclosingElement().toString();
        String name = called.getSimpleName().toString();
        boolean allowed = switch (owner) {
            case "java.lang.String" -> STRING_METHODS.contains(name);
            case "java.util.Arrays" -> ARRAYS_METHODS.contains(name);
            case "java.lang.System" -> name.equals("arraycopy");
            case "java.lang.Math", "java.lang.Integer", "java.lang.Long" -> !name.endsWith("Exact");
            default -> isOwn(called.getEnclosingElement()) || name.equals("<init>");
        };
        forbid(!allowed, "a call of " + owner + "." + name, tree);
        note(called);
        return super.visitMethodInvocation(tree, unused);
    }

    @Override
    public Void visitNewClass(NewClassTree tree, Void unused) {
        Element made = trees.getElement(getCurrentPath());
        forbid(!isOwn(made.getEnclosingElement()), "a new " + made, tree);
        note(made);
        return super.visitNewClass(tree, unused);
    }

    /* Rows are made once, with the object: no call makes one. */
    @Override
    public Void visitNewArray(NewArrayTree tree, Void unused) {
        forbid(method != null && method.getKind() != ElementKind.CONSTRUCTOR, "a new array in a method", tree);
        return super.visitNewArray(tree, unused);
    }

    @Override
    public Void visitBinary(BinaryTree tree, Void unused) {
        forbidJoining(tree);
        return super.visitBinary(tree, unused);
    }

    @Override
    public Void visitCompoundAssignment(CompoundAssignmentTree tree, Void unused) {
        forbidJoining(tree);
        return super.visitCompoundAssignment(tree, unused);
    }

    private void forbidJoining(Tree tree) {
        String type = String.valueOf(trees.getTypeMirror(getCurrentPath()));
        forbid(type.equals("java.lang.String"), "texts joined by +", tree);
    }

    private void note(Element called) {
        if (method != null && isOwn(called.getEnclosingElement())) {
            calls.get(method).add(called);
        }
    }

    private void depths() {
        Map<Element, Set<Element>> reached = new HashMap<>();
        for (Element m : calls.keySet()) {
            Set<Element> all = new HashSet<>();
            List<Element> open = new ArrayList<>(callees(m));
            while (!open.isEmpty()) {
                Element next = open.remove(open.size() - 1);
                if (all.add(next)) {
                    open.addAll(callees(next));
                }
            }
            reached.put(m, all);
        }
        for (Element m : publicMethods) {
            int deep = depthOf(m, reached, new HashMap<>());
            House.due(m + " goes " + deep + " deep, which is too deep,", false, deep > MOST_DEEP);
        }
    }

    private Set<Element> callees(Element m) {
        return calls.getOrDefault(m, Set.of());
    }

    /** The most methods, without those that come back to themselves, that stand open at once from this one on. */
    private int depthOf(Element m, Map<Element, Set<Element>> reached, Map<Element, Integer> told) {
        Integer before = told.get(m);
        if (before != null) {
            return before;
        }
        Set<Element> ring = new HashSet<>(Set.of(m));
        for (Element other : reached.getOrDefault(m, Set.of())) {
            if (reached.getOrDefault(other, Set.of()).contains(m)) {
                ring.add(other);
            }
        }
        int most = 0;
        for (Element member : ring) {
            for (Element next : callees(member)) {
                most = ring.contains(next) ? most : Math.max(most, depthOf(next, reached, told));
            }
        }
        boolean recursive = reached.getOrDefault(m, Set.of()).contains(m);
        told.put(m, most + (recursive ? 0 : 1));
        return told.get(m);
    }
}
