import com.sun.source.tree.*;
import com.sun.source.util.JavacTask;
import com.sun.source.util.TreePathScanner;
import com.sun.source.util.Trees;
import java.nio.file.Files;
import java.nio.file.Path;
import java.util.ArrayList;
import java.util.EnumSet;
import java.util.HashMap;
import java.util.HashSet;
import java.util.List;
import java.util.Map;
import java.util.Set;
import java.util.regex.Pattern;
import javax.lang.model.element.Element;
import javax.lang.model.element.ElementKind;
import javax.lang.model.element.ExecutableElement;
import javax.lang.model.element.Modifier;
import javax.lang.model.element.TypeElement;
import javax.lang.model.element.VariableElement;
import javax.lang.model.type.TypeKind;
import javax.lang.model.type.TypeMirror;
import javax.tools.JavaCompiler;
import javax.tools.StandardJavaFileManager;
import javax.tools.ToolProvider;

/**
 * The rules of LANGUAGE.md, by their numbers, looked at in the source as javac reads it. The class keeps
 * to less than they leave (no recursion, no loop but a counted one, no object made by a call), as that
 * is easier to look at.
 */
final class RulesTest extends TreePathScanner<Void, Void> {
    static final Path SOURCE = Path.of("src/main/java/WallsByTheHour.java");
    private static final String OWN = "WallsByTheHour";
    /** What of rule 4's library the class uses. */
    private static final Set<String> LIBRARY = Set.of("java.lang.String.indexOf(int)", "java.lang.Math.abs(int)",
        "java.lang.Math.max(int,int)", "java.lang.Math.min(int,int)", "java.lang.Integer.bitCount(int)",
        "java.lang.System.arraycopy(java.lang.Object,int,java.lang.Object,int,int)");
    private static final Set<String> TYPES = Set.of("void", "int", "long", "boolean", "char", "int[]", "long[]",
        "java.lang.String");
    /** Rules 2, 6, 9 and 10: what doesn't stand in the source. */
    private static final Set<Tree.Kind> NEVER = EnumSet.of(Tree.Kind.LAMBDA_EXPRESSION, Tree.Kind.MEMBER_REFERENCE,
        Tree.Kind.THROW, Tree.Kind.TRY, Tree.Kind.SYNCHRONIZED, Tree.Kind.ASSERT, Tree.Kind.INSTANCE_OF,
        Tree.Kind.WHILE_LOOP, Tree.Kind.DO_WHILE_LOOP, Tree.Kind.IMPORT, Tree.Kind.PACKAGE, Tree.Kind.FLOAT_LITERAL,
        Tree.Kind.DOUBLE_LITERAL, Tree.Kind.SWITCH_EXPRESSION, Tree.Kind.ENHANCED_FOR_LOOP);
    private static final int DEEPEST = 8;

    private final CompilationUnitTree unit;
    private final Trees trees;
    private final Map<Element, Set<Element>> callsOf = new HashMap<>();
    private final Map<Element, Integer> depths = new HashMap<>();
    private final Set<Element> open = new HashSet<>();
    private int classes = 0;

    private RulesTest(CompilationUnitTree unit, Trees trees) {
        this.unit = unit;
        this.trees = trees;
    }

    static void run() throws Exception {
        Due.so("rule 4: signs 1 to 127", Files.readString(SOURCE).chars().allMatch(c -> c > 0 && c < 128));
        JavaCompiler compiler = ToolProvider.getSystemJavaCompiler();
        try (StandardJavaFileManager files = compiler.getStandardFileManager(null, null, null)) {
            JavacTask task = (JavacTask) compiler.getTask(null, files, null, List.of("-proc:none"), null,
                files.getJavaFileObjects(SOURCE));
            CompilationUnitTree unit = task.parse().iterator().next();
            task.analyze();
            RulesTest look = new RulesTest(unit, Trees.instance(task));
            look.scan(unit, null);
            look.callsAreFlat();
        }
    }

    @Override
    public Void scan(Tree tree, Void none) {
        if (tree != null && NEVER.contains(tree.getKind())) {
            so(tree, "rules 2, 6, 9, 10: the source does without " + tree.getKind(), false);
        }
        return super.scan(tree, none);
    }

    @Override
    public Void visitClass(ClassTree tree, Void none) {
        TypeElement one = (TypeElement) trees.getElement(getCurrentPath());
        classes++;
        so(tree, "rule 11: at most twelve classes", classes <= 12);
        boolean isOuter = one.getNestingKind() == javax.lang.model.element.NestingKind.TOP_LEVEL;
        boolean isInside = one.getNestingKind() == javax.lang.model.element.NestingKind.MEMBER
            && one.getModifiers().contains(Modifier.STATIC);
        so(tree, "rule 2: one class, and static ones inside it", isOuter && one.getSimpleName().contentEquals(OWN) || isInside);
        int fields = 0;
        for (Element member : one.getEnclosedElements()) {
            boolean isField = member.getKind() == ElementKind.FIELD && !member.getModifiers().contains(Modifier.STATIC);
            fields += isField ? 1 : 0;
        }
        so(tree, "rule 11: at most twenty fields", fields <= 20);
        return super.visitClass(tree, none);
    }

    @Override
    public Void visitBlock(BlockTree tree, Void none) {
        so(tree, "rule 5: no static initialiser block", !tree.isStatic());
        return super.visitBlock(tree, none);
    }

    @Override
    public Void visitVariable(VariableTree tree, Void none) {
        VariableElement one = (VariableElement) trees.getElement(getCurrentPath());
        so(tree, "rule 3: the type of " + one, isTaken(one.asType()));
        if (one.getModifiers().contains(Modifier.STATIC)) {
            so(tree, "rule 5: " + one + " is a constant", one.getConstantValue() != null);
        }
        return super.visitVariable(tree, none);
    }

    @Override
    public Void visitMethod(MethodTree tree, Void none) {
        ExecutableElement one = (ExecutableElement) trees.getElement(getCurrentPath());
        so(tree, "rule 3: what " + one + " answers", isTaken(one.getReturnType()));
        so(tree, "rule 6: " + one + " has a name of its own",
            !Set.of("equals", "hashCode", "toString", "finalize", "clone").contains(one.getSimpleName().toString()));
        so(tree, "rule 11: " + one + " takes at most seven", one.getParameters().size() <= 7);
        long last = unit.getLineMap().getLineNumber(trees.getSourcePositions().getEndPosition(unit, tree));
        so(tree, "rule 11: " + one + " is short", last - lineOf(tree) < 60);
        callsOf.putIfAbsent(one, new HashSet<>());
        return super.visitMethod(tree, none);
    }

    @Override
    public Void visitMethodInvocation(MethodInvocationTree tree, Void none) {
        ExecutableElement called = (ExecutableElement) trees.getElement(getCurrentPath());
        String name = called.getEnclosingElement() + "." + called;
        boolean isSuper = called.getKind() == ElementKind.CONSTRUCTOR && name.startsWith("java.lang.Object.");
        so(tree, "rules 4, 13: the library has " + name, isSuper || isOwn(called) || LIBRARY.contains(name));
        Element caller = caller();
        so(tree, "rule 12: no field is made by a call", caller != null);
        if (caller != null && !isSuper) {
            so(tree, "rule 12: no constructor calls", caller.getKind() != ElementKind.CONSTRUCTOR);
            callsOf.computeIfAbsent(caller, c -> new HashSet<>()).add(called);
        }
        return super.visitMethodInvocation(tree, none);
    }

    @Override
    public Void visitNewClass(NewClassTree tree, Void none) {
        so(tree, "rule 12: no call makes an object", caller() == null);
        so(tree, "rule 2: no class without a name", tree.getClassBody() == null);
        so(tree, "rule 3: an object of a class of its own", isTaken(trees.getTypeMirror(getCurrentPath())));
        return super.visitNewClass(tree, none);
    }

    @Override
    public Void visitNewArray(NewArrayTree tree, Void none) {
        so(tree, "rule 12: no call makes an array", caller() == null);
        return super.visitNewArray(tree, none);
    }

    @Override
    public Void visitForLoop(ForLoopTree tree, Void none) {
        String condition = String.valueOf(tree.getCondition());
        String update = tree.getUpdate().size() == 1 ? tree.getUpdate().get(0).toString() : "";
        boolean isCounted = tree.getInitializer().size() == 1 && update.matches("\\w+\\+\\+;?");
        String counter = isCounted ? update.replaceAll("\\W", "") : "";
        so(tree, "rule 9: a counter against a bound", isCounted && condition.matches(counter + " <=? .*"));
        so(tree, "rule 9: a counter that the loop leaves alone", isCounted
            && !Pattern.compile("\\b" + counter + "( [-+*/%&|^<>]*= |\\+\\+|--)").matcher(tree.getStatement().toString()).find());
        return super.visitForLoop(tree, none);
    }

    @Override
    public Void visitBinary(BinaryTree tree, Void none) {
        isSum(tree);
        return super.visitBinary(tree, none);
    }

    @Override
    public Void visitCompoundAssignment(CompoundAssignmentTree tree, Void none) {
        isSum(tree);
        return super.visitCompoundAssignment(tree, none);
    }

    private void isSum(Tree tree) {
        String type = String.valueOf(trees.getTypeMirror(getCurrentPath()));
        so(tree, "rules 3, 10: sums of int and long, no texts", Set.of("int", "long", "boolean").contains(type));
    }

    @Override
    public Void visitCase(CaseTree tree, Void none) {
        so(tree, "rule 6: no patterns", tree.getCaseKind() == CaseTree.CaseKind.STATEMENT);
        return super.visitCase(tree, none);
    }

    /** Rules 8 and 11: no method comes back to itself, and what a call calls goes eight deep at most. */
    private void callsAreFlat() {
        for (Element method : new ArrayList<>(callsOf.keySet())) {
            int depth = depthOf(method);
            Due.so("rule 11: " + method + " goes " + depth + " deep", depth <= DEEPEST);
        }
        Due.so("calls were looked at", callsOf.size() > 44);
    }

    private int depthOf(Element method) {
        if (depths.containsKey(method)) {
            return depths.get(method);
        }
        if (!open.add(method)) {
            Due.so("rule 8: " + method + " doesn't come back to itself", false);
            return 0;
        }
        int deepest = 0;
        for (Element called : callsOf.getOrDefault(method, Set.of())) {
            deepest = Math.max(deepest, depthOf(called));
        }
        open.remove(method);
        depths.put(method, deepest + 1);
        return deepest + 1;
    }

    private static boolean isTaken(TypeMirror type) {
        return TYPES.contains(type.toString())
            || type.getKind() == TypeKind.DECLARED && (type + ".").startsWith(OWN + ".");
    }

    private static boolean isOwn(Element method) {
        return (method.getEnclosingElement() + ".").startsWith(OWN + ".");
    }

    /** The method or constructor that the path stands in, null in a field. */
    private Element caller() {
        for (com.sun.source.util.TreePath path = getCurrentPath(); path != null; path = path.getParentPath()) {
            if (path.getLeaf() instanceof MethodTree) {
                return trees.getElement(path);
            }
        }
        return null;
    }

    private long lineOf(Tree tree) {
        return unit.getLineMap().getLineNumber(trees.getSourcePositions().getStartPosition(unit, tree));
    }

    private void so(Tree tree, String rule, boolean holds) {
        Due.so(SOURCE + ":" + lineOf(tree) + ": " + rule, holds);
    }
}
