import com.sun.source.tree.*;
import com.sun.source.util.JavacTask;
import com.sun.source.util.TreePath;
import com.sun.source.util.TreePathScanner;
import com.sun.source.util.Trees;
import java.nio.file.Path;
import java.util.ArrayList;
import java.util.HashMap;
import java.util.LinkedHashSet;
import java.util.List;
import java.util.Map;
import java.util.Set;
import javax.lang.model.element.Element;
import javax.lang.model.element.ElementKind;
import javax.lang.model.element.Modifier;
import javax.lang.model.type.ArrayType;
import javax.lang.model.type.TypeKind;
import javax.lang.model.type.TypeMirror;
import javax.tools.JavaCompiler;
import javax.tools.StandardJavaFileManager;
import javax.tools.ToolProvider;

/**
 * What of LANGUAGE.md can be seen in the compiler's tree of the class: the constructs, types and library that it
 * leaves, static state, sizes, and how deep calls go. `java -cp .. LanguageTest FILE` looks at another file.
 */
public final class LanguageTest {
    private static final int DEEP = 8;
    private static final int LINES = 60;
    private static final int PARAMETERS = 7;
    private static final int CLASSES = 12;
    private static final int FIELDS = 20;

    private static final Set<Tree.Kind> REFUSED = Set.of(Tree.Kind.THROW, Tree.Kind.TRY, Tree.Kind.SYNCHRONIZED,
        Tree.Kind.ASSERT, Tree.Kind.LAMBDA_EXPRESSION, Tree.Kind.MEMBER_REFERENCE, Tree.Kind.PACKAGE);
    private static final Set<String> LIBRARY = Set.of("java.lang.Math.max", "java.lang.Math.min", "java.lang.Math.abs",
        "java.lang.Math.floorDiv", "java.lang.Math.floorMod", "java.lang.Integer.bitCount", "java.lang.System.arraycopy",
        "java.lang.String.length", "java.lang.String.charAt", "java.lang.Object.<init>");
    private static final Set<TypeKind> STATIC = Set.of(TypeKind.INT, TypeKind.LONG, TypeKind.BOOLEAN, TypeKind.CHAR);
    private static final Set<TypeKind> STATIC_ROWS = Set.of(TypeKind.INT, TypeKind.LONG, TypeKind.CHAR, TypeKind.BYTE);

    private static int wrong = 0;

    private static void tell(String what) {
        wrong++;
        System.out.println("wrong: " + what);
    }

    private static void check(boolean good, String what) {
        if (!good) tell(what);
    }

    public static void main(String[] args) throws Exception {
        Path file = Path.of(args.length > 0 ? args[0] : "src/main/java/RoadBoards.java");
        JavaCompiler compiler = ToolProvider.getSystemJavaCompiler();
        try (StandardJavaFileManager files = compiler.getStandardFileManager(null, null, null)) {
            JavacTask task = (JavacTask) compiler.getTask(null, files, null, List.of("-proc:none"), null,
                files.getJavaFileObjects(file));
            Iterable<? extends CompilationUnitTree> units = task.parse();
            task.analyze();
            for (CompilationUnitTree unit : units) {
                Walk walk = new Walk(Trees.instance(task), unit);
                walk.scan(unit, null);
                walk.finish();
            }
        }
        System.out.println(wrong == 0 ? "the class keeps to the rules that its tree shows" : wrong + " wrong");
        if (wrong > 0) System.exit(1);
    }

    private static final class Walk extends TreePathScanner<Void, Void> {
        private final Trees trees;
        private final CompilationUnitTree unit;
        private final Map<Element, Set<Element>> calls = new HashMap<>();
        private final Map<Element, List<Element>> deepest = new HashMap<>();
        private final Set<Element> open = new LinkedHashSet<>();
        private Element method;
        private int classes;

        Walk(Trees trees, CompilationUnitTree unit) {
            this.trees = trees;
            this.unit = unit;
        }

        private String at(Tree tree) { return "line " + line(trees.getSourcePositions().getStartPosition(unit, tree)); }

        private long line(long position) { return unit.getLineMap().getLineNumber(position); }

        private boolean isOwn(Element e) {
            TreePath path = e == null ? null : trees.getPath(e);
            return path != null && path.getCompilationUnit() == unit;
        }

        @Override
        public Void scan(Tree tree, Void none) {
            if (tree != null) check(!REFUSED.contains(tree.getKind()), at(tree) + ": " + tree.getKind());
            return super.scan(tree, none);
        }

        @Override
        public Void visitClass(ClassTree tree, Void none) {
            classes++;
            Element e = trees.getElement(getCurrentPath());
            boolean outer = e.getEnclosingElement().getKind() == ElementKind.PACKAGE;
            boolean inside = e.getEnclosingElement().getKind().isClass();
            check(outer || inside && e.getModifiers().contains(Modifier.STATIC), at(tree) + ": a class that isn't static");
            int fields = 0;
            for (Tree member : tree.getMembers()) {
                check(!(member instanceof BlockTree), at(member) + ": an initialiser block");
                if (!(member instanceof VariableTree field)) continue;
                if (field.getModifiers().getFlags().contains(Modifier.STATIC)) checkStatic(field);
                else fields++;
            }
            check(fields <= FIELDS, at(tree) + ": " + fields + " fields");
            Element before = method;
            super.visitClass(tree, none);
            method = before;
            return null;
        }

        private void checkStatic(VariableTree field) {
            check(field.getModifiers().getFlags().contains(Modifier.FINAL), at(field) + ": static and not final");
            TypeMirror type = typeOf(field);
            if (type instanceof ArrayType row) {
                boolean written = field.getInitializer() instanceof NewArrayTree n && n.getInitializers() != null;
                check(STATIC_ROWS.contains(row.getComponentType().getKind()) && written, at(field) + ": a static row");
            } else {
                check(STATIC.contains(type.getKind()) || type.toString().equals("java.lang.String"), at(field) + ": " + type);
            }
        }

        private TypeMirror typeOf(VariableTree tree) {
            return trees.getTypeMirror(new TreePath(getCurrentPath(), tree.getType()));
        }

        @Override
        public Void visitVariable(VariableTree tree, Void none) {
            TypeMirror type = trees.getTypeMirror(new TreePath(getCurrentPath(), tree.getType()));
            check(isLeft(type), at(tree) + ": the type " + type);
            return super.visitVariable(tree, none);
        }

        /** Rows of one dimension, but of two of numbers; no double or float, which this class has no need of. */
        private boolean isLeft(TypeMirror type) {
            TypeMirror of = type;
            int rows = 0;
            while (of instanceof ArrayType row) {
                of = row.getComponentType();
                rows++;
            }
            if (of.getKind().isPrimitive()) {
                return rows <= 2 && of.getKind() != TypeKind.DOUBLE && of.getKind() != TypeKind.FLOAT;
            }
            String name = of.toString();
            return rows <= 1 && (name.startsWith("RoadBoards") || rows == 0 && name.matches("java\\.lang\\.String(Builder)?"));
        }

        @Override
        public Void visitMethod(MethodTree tree, Void none) {
            method = trees.getElement(getCurrentPath());
            calls.putIfAbsent(method, new LinkedHashSet<>());
            check(tree.getParameters().size() <= PARAMETERS, at(tree) + ": more than seven parameters");
            long first = line(trees.getSourcePositions().getStartPosition(unit, tree));
            // A constructor that is not written has no end.
            long end = trees.getSourcePositions().getEndPosition(unit, tree);
            check(end < 0 || line(end) - first < LINES, at(tree) + ": a method of more than sixty lines");
            return super.visitMethod(tree, none);
        }

        @Override
        public Void visitMethodInvocation(MethodInvocationTree tree, Void none) {
            noteCall(trees.getElement(new TreePath(getCurrentPath(), tree.getMethodSelect())), tree);
            return super.visitMethodInvocation(tree, none);
        }

        @Override
        public Void visitNewClass(NewClassTree tree, Void none) {
            check(tree.getClassBody() == null, at(tree) + ": a class without a name");
            noteCall(trees.getElement(getCurrentPath()), tree);
            return super.visitNewClass(tree, none);
        }

        private void noteCall(Element to, Tree tree) {
            if (to == null) {
                tell(at(tree) + ": a call of what is not known");
                return;
            }
            String name = to.getEnclosingElement() + "." + to.getSimpleName();
            check(isOwn(to) || LIBRARY.contains(name), at(tree) + ": the library's " + name);
            if (method != null) calls.computeIfAbsent(method, m -> new LinkedHashSet<>()).add(to);
        }

        @Override
        public Void visitAssignment(AssignmentTree tree, Void none) {
            checkKept(tree.getVariable());
            return super.visitAssignment(tree, none);
        }

        @Override
        public Void visitCompoundAssignment(CompoundAssignmentTree tree, Void none) {
            checkKept(tree.getVariable());
            return super.visitCompoundAssignment(tree, none);
        }

        @Override
        public Void visitUnary(UnaryTree tree, Void none) {
            checkKept(tree.getKind().name().contains("CREMENT") ? tree.getExpression() : null);
            return super.visitUnary(tree, none);
        }

        private void checkKept(Tree changed) {
            if (!(changed instanceof ArrayAccessTree access)) return;
            Element row = trees.getElement(new TreePath(getCurrentPath(), access.getExpression()));
            check(row == null || !row.getModifiers().contains(Modifier.STATIC), at(changed) + ": a static row is changed");
        }

        @Override
        public Void visitWhileLoop(WhileLoopTree tree, Void none) {
            check(!tree.getCondition().toString().equals("(true)"), at(tree) + ": a loop without an end");
            return super.visitWhileLoop(tree, none);
        }

        @Override
        public Void visitForLoop(ForLoopTree tree, Void none) {
            check(tree.getCondition() != null && !tree.getUpdate().isEmpty(), at(tree) + ": a loop without an end");
            return super.visitForLoop(tree, none);
        }

        @Override
        public Void visitBinary(BinaryTree tree, Void none) {
            if (tree.getKind() == Tree.Kind.PLUS || tree.getKind() == Tree.Kind.EQUAL_TO || tree.getKind() == Tree.Kind.NOT_EQUAL_TO) {
                check(!isText(tree.getLeftOperand()) && !isText(tree.getRightOperand()), at(tree) + ": " + tree.getKind() + " of texts");
            }
            return super.visitBinary(tree, none);
        }

        private boolean isText(Tree tree) {
            TypeMirror type = trees.getTypeMirror(new TreePath(getCurrentPath(), tree));
            return type != null && type.toString().equals("java.lang.String");
        }

        void finish() {
            check(classes <= CLASSES, classes + " classes");
            for (Element m : calls.keySet()) {
                if (!m.getModifiers().contains(Modifier.PUBLIC)) continue;
                List<Element> path = deepestFrom(m);
                check(path.size() <= DEEP, "calls go " + path.size() + " deep: " + path);
            }
        }

        /** The methods that stand open at once, the library's too, where most do. */
        private List<Element> deepestFrom(Element m) {
            List<Element> known = deepest.get(m);
            if (known != null) return known;
            List<Element> most = List.of();
            if (open.add(m)) {
                for (Element to : calls.getOrDefault(m, Set.of())) {
                    List<Element> path = deepestFrom(to);
                    if (path.size() > most.size()) most = path;
                }
                open.remove(m);
            } else {
                tell(m + " calls itself");
                return most;
            }
            List<Element> path = new ArrayList<>();
            path.add(m);
            path.addAll(most);
            deepest.put(m, path);
            return path;
        }
    }
}
