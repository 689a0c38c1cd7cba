import com.sun.source.tree.BinaryTree;
import com.sun.source.tree.BlockTree;
import com.sun.source.tree.ClassTree;
import com.sun.source.tree.CompilationUnitTree;
import com.sun.source.tree.ForLoopTree;
import com.sun.source.tree.MethodInvocationTree;
import com.sun.source.tree.MethodTree;
import com.sun.source.tree.NewArrayTree;
import com.sun.source.tree.NewClassTree;
import com.sun.source.tree.Tree;
import com.sun.source.tree.TypeCastTree;
import com.sun.source.tree.VariableTree;
import com.sun.source.util.JavacTask;
import com.sun.source.util.SourcePositions;
import com.sun.source.util.TreePath;
import com.sun.source.util.TreePathScanner;
import com.sun.source.util.Trees;
import java.nio.file.Path;
import java.util.ArrayList;
import java.util.HashSet;
import java.util.LinkedHashMap;
import java.util.List;
import java.util.Map;
import java.util.Set;
import java.util.TreeSet;
import javax.lang.model.element.Element;
import javax.lang.model.element.ElementKind;
import javax.lang.model.element.ExecutableElement;
import javax.lang.model.element.Modifier;
import javax.lang.model.element.TypeElement;
import javax.lang.model.element.VariableElement;
import javax.lang.model.type.DeclaredType;
import javax.lang.model.type.TypeMirror;
import javax.tools.JavaCompiler;
import javax.tools.StandardJavaFileManager;
import javax.tools.ToolProvider;

/**
 * The rules of LANGUAGE.md, held against the source as javac reads it. Where the class needs less than a rule leaves
 * (no import, no recursion, no while, nothing made by a call), the test holds it to that: it is easier to see.
 */
public final class SourceRulesTest extends TreePathScanner<Void, Void> {
    private static final Due DUE = new Due();
    // Of rule 4, what the class uses.
    private static final Set<String> LIBRARY = Set.of(
        "java.lang.Math.max(int,int)", "java.lang.Integer.bitCount(int)", "java.lang.String.indexOf(int)",
        "java.lang.System.arraycopy(java.lang.Object,int,java.lang.Object,int,int)");
    // Of rule 3, what the class uses, beside its own classes.
    private static final Set<String> TYPES = Set.of(
        "void", "int", "long", "boolean", "int[]", "boolean[]", "java.lang.String");
    // Of rules 2, 6 and 9, what must not stand anywhere.
    private static final Set<Tree.Kind> BANNED = Set.of(
        Tree.Kind.THROW, Tree.Kind.TRY, Tree.Kind.CATCH, Tree.Kind.SYNCHRONIZED, Tree.Kind.ASSERT,
        Tree.Kind.LAMBDA_EXPRESSION, Tree.Kind.MEMBER_REFERENCE, Tree.Kind.SWITCH_EXPRESSION, Tree.Kind.YIELD,
        Tree.Kind.IMPORT, Tree.Kind.PACKAGE, Tree.Kind.ANNOTATION, Tree.Kind.WHILE_LOOP, Tree.Kind.DO_WHILE_LOOP);
    private static final int MOST_LINES = 60, MOST_PARAMETERS = 7, MOST_CLASSES = 12, MOST_FIELDS = 20, DEEPEST = 8;

    private final Trees trees;
    private final CompilationUnitTree unit;
    private final SourcePositions places;
    private final Map<ExecutableElement, Set<ExecutableElement>> calls = new LinkedHashMap<>();
    private final List<TypeElement> classes = new ArrayList<>();
    private final Set<String> publicNames = new TreeSet<>();
    private final Set<String> privateNames = new TreeSet<>();

    private SourceRulesTest(JavacTask task, CompilationUnitTree unit) {
        trees = Trees.instance(task);
        places = trees.getSourcePositions();
        this.unit = unit;
    }

    public static void main(String[] args) throws Exception {
        JavaCompiler compiler = ToolProvider.getSystemJavaCompiler();
        try (StandardJavaFileManager files = compiler.getStandardFileManager(null, null, null)) {
            JavacTask task = (JavacTask) compiler.getTask(null, files, null, List.of("--release", "17"), null,
                files.getJavaFileObjects(Path.of("src/main/java/JudgedRows.java")));
            CompilationUnitTree unit = task.parse().iterator().next();
            task.analyze();
            SourceRulesTest test = new SourceRulesTest(task, unit);
            test.scan(new TreePath(unit), null);
            test.whole();
        }
        DUE.end();
    }

    // ---- what is looked at where it stands

    @Override
    public Void scan(Tree tree, Void none) {
        if (tree != null) {
            DUE.holds("no " + tree.getKind() + at(tree), !BANNED.contains(tree.getKind()));
        }
        return super.scan(tree, none);
    }

    @Override
    public Void visitClass(ClassTree tree, Void none) {
        TypeElement element = (TypeElement) element();
        Tree outside = getCurrentPath().getParentPath().getLeaf();
        boolean outermost = outside == unit;
        classes.add(element);
        DUE.holds("no local or anonymous class" + at(tree), outermost || outside instanceof ClassTree);
        DUE.holds("a class inside is private and static" + at(tree), outermost
            || element.getModifiers().containsAll(Set.of(Modifier.PRIVATE, Modifier.STATIC)));
        int fields = 0;
        for (Tree member : tree.getMembers()) {
            DUE.holds("no block of an initialiser" + at(member), !(member instanceof BlockTree));
            if (member instanceof VariableTree field && !field.getModifiers().getFlags().contains(Modifier.STATIC)) {
                fields++;
            }
        }
        DUE.holds("fields of " + element + ": " + fields, fields <= MOST_FIELDS);
        return super.visitClass(tree, none);
    }

    @Override
    public Void visitVariable(VariableTree tree, Void none) {
        VariableElement element = (VariableElement) element();
        holdsType(element.asType(), tree);
        if (element.getModifiers().contains(Modifier.STATIC)) {
            DUE.holds("a static field is a constant" + at(tree), element.getConstantValue() != null);
        }
        return super.visitVariable(tree, none);
    }

    @Override
    public Void visitMethod(MethodTree tree, Void none) {
        ExecutableElement element = (ExecutableElement) element();
        calls.computeIfAbsent(element, key -> new HashSet<>());
        holdsType(element.getReturnType(), tree);
        DUE.holds("seven parameters at most" + at(tree), tree.getParameters().size() <= MOST_PARAMETERS);
        long lines = line(places.getEndPosition(unit, tree)) - line(places.getStartPosition(unit, tree)) + 1;
        DUE.holds("a short method: " + lines + " lines" + at(tree), lines <= MOST_LINES);
        String name = element.getSimpleName().toString();
        DUE.holds("no " + name + at(tree), !Set.of("equals", "hashCode", "toString").contains(name));
        if (element.getKind() == ElementKind.METHOD) {
            (element.getModifiers().contains(Modifier.PUBLIC) ? publicNames : privateNames).add(name);
        }
        return super.visitMethod(tree, none);
    }

    @Override
    public Void visitMethodInvocation(MethodInvocationTree tree, Void none) {
        ExecutableElement called = (ExecutableElement) element();
        ExecutableElement caller = caller();
        boolean constructing = called.getKind() == ElementKind.CONSTRUCTOR;
        if (!constructing) {
            DUE.holds("a constructor calls no method" + at(tree),
                caller != null && caller.getKind() == ElementKind.METHOD);
        }
        if (!isOwn(called)) {
            String name = called.getEnclosingElement() + "." + called;
            DUE.holds("of the library: " + name + at(tree), constructing || LIBRARY.contains(name));
        }
        if (called.getSimpleName().contentEquals("indexOf")) {
            DUE.holds("indexOf of a char" + at(tree), type(tree.getArguments().get(0)).toString().equals("char"));
        }
        if (caller != null && !constructing) {
            calls.computeIfAbsent(caller, key -> new HashSet<>()).add(called);
        }
        return super.visitMethodInvocation(tree, none);
    }

    @Override
    public Void visitNewClass(NewClassTree tree, Void none) {
        DUE.holds("only own classes are made" + at(tree), isOwn(element()));
        DUE.holds("made in a constructor" + at(tree), inConstructor());
        return super.visitNewClass(tree, none);
    }

    @Override
    public Void visitNewArray(NewArrayTree tree, Void none) {
        DUE.holds("made in a constructor" + at(tree), inConstructor());
        return super.visitNewArray(tree, none);
    }

    @Override
    public Void visitTypeCast(TypeCastTree tree, Void none) {
        DUE.holds("a cast among numbers, which can't fail" + at(tree), type(tree.getType()).getKind().isPrimitive()
            && type(tree.getExpression()).getKind().isPrimitive());
        return super.visitTypeCast(tree, none);
    }

    @Override
    public Void visitForLoop(ForLoopTree tree, Void none) {
        DUE.holds("a loop has a bound and a step" + at(tree),
            tree.getCondition() instanceof BinaryTree && tree.getUpdate().size() == 1);
        return super.visitForLoop(tree, none);
    }

    @Override
    public Void visitBinary(BinaryTree tree, Void none) {
        boolean numbers = type(tree.getLeftOperand()).getKind().isPrimitive()
            && type(tree.getRightOperand()).getKind().isPrimitive();
        DUE.holds("numbers on both sides, no text" + at(tree), numbers);
        return super.visitBinary(tree, none);
    }

    // ---- what is looked at when all was read

    private void whole() {
        Set<String> both = new TreeSet<>(privateNames);
        both.retainAll(publicNames);
        DUE.holds("no other method bears the name of a public one: " + both, both.isEmpty());
        DUE.is("public names", publicNames.size(), 26);
        DUE.holds("classes: " + classes.size(), classes.size() <= MOST_CLASSES);
        overriders();
        for (ExecutableElement each : calls.keySet()) {
            int deep = depth(each, new ArrayList<>());
            DUE.holds("calls go " + deep + " deep from " + each, deep <= DEEPEST);
        }
    }

    /** Who calls a method may come to any that overrides it. */
    private void overriders() {
        for (Set<ExecutableElement> called : calls.values()) {
            for (ExecutableElement one : List.copyOf(called)) {
                for (ExecutableElement other : calls.keySet()) {
                    if (isOwn(one) && one.toString().equals(other.toString()) && extendsClass(other, one)) {
                        called.add(other);
                    }
                }
            }
        }
    }

    private static boolean extendsClass(ExecutableElement other, ExecutableElement one) {
        Element above = other.getEnclosingElement();
        while (above instanceof TypeElement type && type.getSuperclass() instanceof DeclaredType up) {
            above = up.asElement();
            if (above.equals(one.getEnclosingElement())) {
                return true;
            }
        }
        return false;
    }

    private int depth(ExecutableElement method, List<ExecutableElement> open) {
        if (open.contains(method)) {
            DUE.holds("no recursion: " + open, false);
            return 0;
        }
        open.add(method);
        int below = 0;
        for (ExecutableElement each : calls.getOrDefault(method, Set.of())) {
            below = Math.max(below, depth(each, open));
        }
        open.remove(method);
        return below + 1;
    }

    // ---- what the looks need

    private void holdsType(TypeMirror type, Tree tree) {
        String name = type.toString();
        boolean own = name.startsWith("JudgedRows.");
        DUE.holds("a type that rule 3 leaves: " + name + at(tree), own || TYPES.contains(name));
    }

    private Element element() {
        return trees.getElement(getCurrentPath());
    }

    private TypeMirror type(Tree tree) {
        return trees.getTypeMirror(new TreePath(getCurrentPath(), tree));
    }

    private static boolean isOwn(Element element) {
        Element above = element;
        while (above.getEnclosingElement() != null && above.getEnclosingElement().getKind() != ElementKind.PACKAGE) {
            above = above.getEnclosingElement();
        }
        return above.getSimpleName().contentEquals("JudgedRows");
    }

    /** The method that stands around this place; null, if it is a field's first value. */
    private ExecutableElement caller() {
        for (TreePath path = getCurrentPath(); path != null; path = path.getParentPath()) {
            if (path.getLeaf() instanceof MethodTree) {
                return (ExecutableElement) trees.getElement(path);
            }
        }
        return null;
    }

    private boolean inConstructor() {
        return caller() == null || caller().getKind() == ElementKind.CONSTRUCTOR;
    }

    private long line(long place) {
        return unit.getLineMap().getLineNumber(place);
    }

    private String at(Tree tree) {
        long place = places.getStartPosition(unit, tree);
        return place < 0 ? "" : ", line " + line(place);
    }
}
