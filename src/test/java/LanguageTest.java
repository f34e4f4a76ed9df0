import com.sun.source.tree.BinaryTree;
import com.sun.source.tree.ClassTree;
import com.sun.source.tree.CompilationUnitTree;
import com.sun.source.tree.CompoundAssignmentTree;
import com.sun.source.tree.ExpressionTree;
import com.sun.source.tree.ImportTree;
import com.sun.source.tree.LiteralTree;
import com.sun.source.tree.MethodInvocationTree;
import com.sun.source.tree.MethodTree;
import com.sun.source.tree.NewClassTree;
import com.sun.source.tree.ThrowTree;
import com.sun.source.tree.Tree;
import com.sun.source.tree.VariableTree;
import com.sun.source.util.JavacTask;
import com.sun.source.util.TreePath;
import com.sun.source.util.TreePathScanner;
import com.sun.source.util.Trees;
import java.nio.file.Path;
import java.util.ArrayDeque;
import java.util.ArrayList;
import java.util.Deque;
import java.util.HashMap;
import java.util.HashSet;
import java.util.List;
import java.util.Map;
import java.util.Set;
import java.util.TreeMap;
import java.util.TreeSet;
import javax.lang.model.element.Element;
import javax.lang.model.element.Modifier;
import javax.lang.model.type.DeclaredType;
import javax.lang.model.type.TypeMirror;
import javax.tools.JavaCompiler;
import javax.tools.StandardJavaFileManager;
import javax.tools.ToolProvider;

/** The rules of LANGUAGE.md that can be seen in the text of the program; FaceTest has those seen from outside. */
public final class LanguageTest extends TreePathScanner<Void, Void> {
    /** Of the library that rule 4 leaves, what the program uses; a call more must be looked up there and put here. */
    private static final Set<String> LIBRARY = Set.of(
        "java.lang.String.indexOf", "java.lang.Math.max", "java.lang.Math.min", "java.lang.System.arraycopy",
        "java.util.Arrays.fill");
    private static final Set<String> IMPORTS = Set.of("java.util.Arrays", "java.util.NoSuchElementException");
    /** Kinds of trees that rules 2, 6 and 10 rule out, or that the program has no need of. */
    private static final Set<Tree.Kind> RULED_OUT = Set.of(
        Tree.Kind.LAMBDA_EXPRESSION, Tree.Kind.MEMBER_REFERENCE, Tree.Kind.TRY, Tree.Kind.CATCH, Tree.Kind.SYNCHRONIZED,
        Tree.Kind.ASSERT, Tree.Kind.INSTANCE_OF, Tree.Kind.SWITCH_EXPRESSION, Tree.Kind.ANNOTATION,
        Tree.Kind.DOUBLE_LITERAL, Tree.Kind.FLOAT_LITERAL, Tree.Kind.ENUM, Tree.Kind.INTERFACE, Tree.Kind.RECORD);
    private static final Set<String> TYPES_OF_STATICS = Set.of("int", "long", "boolean", "char", "java.lang.String",
        "int[]", "long[]", "char[]", "byte[]");
    private static final int MOST_LINES = 60;
    private static final int DEEPEST_CALLS = 8;

    private final Trees trees;
    private final CompilationUnitTree unit;
    private final Map<String, Set<String>> calls = new TreeMap<>();
    private int classes = 0;

    private LanguageTest(Trees trees, CompilationUnitTree unit) {
        this.trees = trees;
        this.unit = unit;
    }

    public static void main(String[] args) throws Exception {
        JavaCompiler compiler = ToolProvider.getSystemJavaCompiler();
        try (StandardJavaFileManager files = compiler.getStandardFileManager(null, null, null)) {
            JavacTask task = (JavacTask) compiler.getTask(null, files, null, List.of("-proc:none"), null,
                files.getJavaFileObjects(Path.of("src/main/java/ThirdComer.java")));
            CompilationUnitTree unit = task.parse().iterator().next();
            task.analyze();
            LanguageTest test = new LanguageTest(Trees.instance(task), unit);
            test.scan(new TreePath(unit), null);
            Check.yes("rule 11: twelve classes at most: " + test.classes, test.classes <= 12);
            test.depths();
        }
        Check.finish();
    }

    private String place(Tree tree) {
        long at = trees.getSourcePositions().getStartPosition(unit, tree);
        return " in line " + unit.getLineMap().getLineNumber(at);
    }

    private long lines(Tree tree) {
        long from = trees.getSourcePositions().getStartPosition(unit, tree);
        long to = trees.getSourcePositions().getEndPosition(unit, tree);
        return unit.getLineMap().getLineNumber(to) - unit.getLineMap().getLineNumber(from) + 1;
    }

    private boolean isText(ExpressionTree tree) {
        TypeMirror type = trees.getTypeMirror(new TreePath(getCurrentPath(), tree));
        // The type of a constant says its value too, so the class is asked for.
        return type instanceof DeclaredType && ((DeclaredType) type).asElement().toString().equals("java.lang.String");
    }

    @Override
    public Void scan(Tree tree, Void nothing) {
        if (tree != null) {
            Check.no("not in the language: " + tree.getKind() + place(tree), RULED_OUT.contains(tree.getKind()));
        }
        return super.scan(tree, nothing);
    }

    @Override
    public Void visitImport(ImportTree tree, Void nothing) {
        String name = tree.getQualifiedIdentifier().toString();
        Check.yes("rule 4: import " + name, !tree.isStatic() && IMPORTS.contains(name));
        return super.visitImport(tree, nothing);
    }

    @Override
    public Void visitClass(ClassTree tree, Void nothing) {
        classes++;
        for (Tree member : tree.getMembers()) {
            Check.no("rule 5: no static block" + place(member), member.getKind() == Tree.Kind.BLOCK);
        }
        return super.visitClass(tree, nothing);
    }

    @Override
    public Void visitVariable(VariableTree tree, Void nothing) {
        if (tree.getModifiers().getFlags().contains(Modifier.STATIC)) {
            String type = trees.getTypeMirror(getCurrentPath()).toString();
            Check.yes("rule 5: " + type + " " + tree.getName() + place(tree), TYPES_OF_STATICS.contains(type)
                && tree.getModifiers().getFlags().contains(Modifier.FINAL) && tree.getInitializer() != null);
        }
        return super.visitVariable(tree, nothing);
    }

    @Override
    public Void visitMethod(MethodTree tree, Void nothing) {
        Check.yes("rule 11: seven parameters at most: " + tree.getName(), tree.getParameters().size() <= 7);
        Check.yes("rule 11: " + tree.getName() + " has " + lines(tree) + " lines", lines(tree) <= MOST_LINES);
        Element method = trees.getElement(getCurrentPath());
        calls.computeIfAbsent(nameOf(method), name -> new TreeSet<>());
        return super.visitMethod(tree, nothing);
    }

    @Override
    public Void visitMethodInvocation(MethodInvocationTree tree, Void nothing) {
        Element called = trees.getElement(getCurrentPath());
        String name = nameOf(called);
        boolean own = name.startsWith("ThirdComer");
        if (!called.getSimpleName().contentEquals("<init>")) {
            Check.yes("rule 4: " + name + place(tree), own || LIBRARY.contains(name));
        }
        String caller = caller();
        if (own && caller != null) {
            calls.computeIfAbsent(caller, key -> new TreeSet<>()).add(name);
        }
        return super.visitMethodInvocation(tree, nothing);
    }

    @Override
    public Void visitNewClass(NewClassTree tree, Void nothing) {
        String made = trees.getTypeMirror(getCurrentPath()).toString();
        boolean thrown = getCurrentPath().getParentPath().getLeaf() instanceof ThrowTree;
        Check.yes("rules 4 and 6: new " + made + place(tree),
            made.startsWith("ThirdComer.") || thrown && made.equals("java.util.NoSuchElementException"));
        for (ExpressionTree given : tree.getArguments()) {
            Check.yes("rule 6: a written text" + place(tree), !thrown || given instanceof LiteralTree);
        }
        return super.visitNewClass(tree, nothing);
    }

    @Override
    public Void visitThrow(ThrowTree tree, Void nothing) {
        String caller = caller();
        Check.yes("rule 6: only where the document names it" + place(tree),
            "ThirdComer.village".equals(caller) || "ThirdComer.value".equals(caller));
        return super.visitThrow(tree, nothing);
    }

    @Override
    public Void visitBinary(BinaryTree tree, Void nothing) {
        boolean texts = isText(tree.getLeftOperand()) || isText(tree.getRightOperand());
        Check.no("rules 6 and 10: texts are neither joined nor compared by signs" + place(tree), texts);
        return super.visitBinary(tree, nothing);
    }

    @Override
    public Void visitCompoundAssignment(CompoundAssignmentTree tree, Void nothing) {
        Check.no("rule 10: texts are not joined by signs" + place(tree), isText(tree.getVariable()));
        return super.visitCompoundAssignment(tree, nothing);
    }

    @Override
    public Void visitLiteral(LiteralTree tree, Void nothing) {
        if (tree.getValue() instanceof String) {
            boolean plain = ((String) tree.getValue()).chars().allMatch(sign -> sign >= 1 && sign <= 127);
            Check.yes("rule 4: signs of 1 to 127" + place(tree), plain);
        }
        return super.visitLiteral(tree, nothing);
    }

    // ---- how deep calls go

    private static String nameOf(Element method) {
        return method.getEnclosingElement() + "." + method.getSimpleName();
    }

    private String caller() {
        for (TreePath path = getCurrentPath(); path != null; path = path.getParentPath()) {
            if (path.getLeaf() instanceof MethodTree) {
                return nameOf(trees.getElement(path));
            }
        }
        return null;
    }

    private Set<String> reachedFrom(String method) {
        Set<String> reached = new HashSet<>();
        Deque<String> open = new ArrayDeque<>(calls.getOrDefault(method, Set.of()));
        while (!open.isEmpty()) {
            String next = open.pop();
            if (reached.add(next)) {
                open.addAll(calls.getOrDefault(next, Set.of()));
            }
        }
        return reached;
    }

    /** Methods that call one another in a ring count as one level: rule 11 speaks of calls that are no recursion. */
    private void depths() {
        Map<String, Set<String>> reach = new HashMap<>();
        Set<String> inRings = new TreeSet<>();
        for (String method : calls.keySet()) {
            reach.put(method, reachedFrom(method));
            if (reach.get(method).contains(method)) {
                inRings.add(method.substring(method.lastIndexOf('.') + 1));
            }
        }
        Check.yes("rule 8: recursion only where a depth is carried: " + inRings, inRings.equals(
            Set.of("readCondition", "readTruth", "readUnit", "readSum", "readTerm", "readAtom")));
        Map<String, List<String>> deepest = new HashMap<>();
        for (String method : calls.keySet()) {
            List<String> path = deepestFrom(method, reach, deepest);
            Check.yes("rule 11: eight deep at most: " + path, path.size() <= DEEPEST_CALLS);
        }
    }

    private List<String> deepestFrom(String method, Map<String, Set<String>> reach, Map<String, List<String>> deepest) {
        List<String> known = deepest.get(method);
        if (known != null) {
            return known;
        }
        Set<String> ring = new TreeSet<>(Set.of(method));
        for (String other : reach.getOrDefault(method, Set.of())) {
            if (reach.getOrDefault(other, Set.of()).contains(method)) {
                ring.add(other);
            }
        }
        List<String> longest = new ArrayList<>();
        for (String member : ring) {
            for (String next : calls.getOrDefault(member, Set.of())) {
                List<String> behind = ring.contains(next) ? List.of() : deepestFrom(next, reach, deepest);
                longest = behind.size() > longest.size() ? new ArrayList<>(behind) : longest;
            }
        }
        longest.add(0, method);
        deepest.put(method, longest);
        return longest;
    }
}
