import com.sun.source.tree.AssertTree;
import com.sun.source.tree.AssignmentTree;
import com.sun.source.tree.BinaryTree;
import com.sun.source.tree.ClassTree;
import com.sun.source.tree.CompilationUnitTree;
import com.sun.source.tree.CompoundAssignmentTree;
import com.sun.source.tree.LambdaExpressionTree;
import com.sun.source.tree.LiteralTree;
import com.sun.source.tree.MemberReferenceTree;
import com.sun.source.tree.MethodInvocationTree;
import com.sun.source.tree.MethodTree;
import com.sun.source.tree.NewClassTree;
import com.sun.source.tree.SynchronizedTree;
import com.sun.source.tree.ThrowTree;
import com.sun.source.tree.Tree;
import com.sun.source.tree.TryTree;
import com.sun.source.tree.TypeCastTree;
import com.sun.source.tree.VariableTree;
import com.sun.source.util.JavacTask;
import com.sun.source.util.TreePath;
import com.sun.source.util.TreePathScanner;
import com.sun.source.util.Trees;
import java.io.File;
import java.io.IOException;
import java.nio.file.Files;
import java.nio.file.Path;
import java.util.ArrayList;
import java.util.LinkedHashMap;
import java.util.LinkedHashSet;
import java.util.List;
import java.util.Map;
import java.util.Set;
import java.util.TreeSet;
import javax.lang.model.element.Element;
import javax.lang.model.element.ElementKind;
import javax.lang.model.element.ExecutableElement;
import javax.lang.model.element.Modifier;
import javax.tools.JavaCompiler;
import javax.tools.StandardJavaFileManager;
import javax.tools.ToolProvider;

/** The rules of LANGUAGE.md that a tool can see, and the document's face, asked of the class's source. */
public final class LanguageTest {
    private static final String SOURCE = "src/main/java/WolfKnight.java";
    private static final String DOCUMENT = "../shared/DOC.md";
    private static final Set<String> LIBRARY = Set.of("java.lang.Math.min", "java.lang.Math.max",
            "java.lang.Math.floorMod", "java.lang.Integer.bitCount", "java.lang.Integer.numberOfTrailingZeros");
    private static final int MOST_LINES = 60;
    private static final int MOST_PARAMETERS = 7;
    private static final int MOST_CLASSES = 12;
    private static final int MOST_FIELDS = 20;
    private static final int MOST_DEEP = 8;

    private static int wrong = 0;

    private LanguageTest() {
    }

    private static void blame(String what) {
        wrong++;
        System.out.println(what);
    }

    private static final class Scanner extends TreePathScanner<Void, Void> {
        private final Trees trees;
        private final CompilationUnitTree unit;
        private final Map<Element, Set<Element>> calls = new LinkedHashMap<>();
        private final Set<String> faceNames = new TreeSet<>();
        private final List<ExecutableElement> methods = new ArrayList<>();
        private int classes = 0;
        private Element inside = null;

        Scanner(Trees trees, CompilationUnitTree unit) {
            this.trees = trees;
            this.unit = unit;
        }

        private String where(Tree tree) {
            long at = trees.getSourcePositions().getStartPosition(unit, tree);
            return "line " + unit.getLineMap().getLineNumber(at) + ": ";
        }

        private Element elementOf(Tree tree) {
            return trees.getElement(new TreePath(getCurrentPath(), tree));
        }

        private void never(Tree tree, String what) {
            blame(where(tree) + what);
        }

        @Override
        public Void visitClass(ClassTree tree, Void none) {
            classes++;
            Element element = trees.getElement(getCurrentPath());
            boolean outer = tree.getSimpleName().contentEquals("WolfKnight");
            Set<Modifier> flags = tree.getModifiers().getFlags();
            if (outer && !(flags.contains(Modifier.PUBLIC) && flags.contains(Modifier.FINAL))) {
                never(tree, "rule 1: the class is not public and final");
            }
            boolean member = element.getEnclosingElement().getKind().isClass();
            if (!outer && !(member && flags.contains(Modifier.STATIC) && !flags.contains(Modifier.PUBLIC)
                    && !flags.contains(Modifier.PROTECTED))) {
                never(tree, "rule 2: a class inside that is not a static, unpublic member");
            }
            int fields = 0;
            for (Tree part : tree.getMembers()) {
                if (part instanceof VariableTree) {
                    Set<Modifier> own = ((VariableTree) part).getModifiers().getFlags();
                    fields += own.contains(Modifier.STATIC) ? 0 : 1;
                    if (own.contains(Modifier.STATIC) && !own.contains(Modifier.FINAL)) {
                        never(part, "rule 5: a static field that is not final");
                    }
                    if (outer && !own.contains(Modifier.PRIVATE) && !own.contains(Modifier.PUBLIC)) {
                        never(part, "rule 1: a field that is not private");
                    }
                }
                if (part.getKind() == Tree.Kind.BLOCK) {
                    never(part, "rule 5: an initialiser block");
                }
            }
            if (fields > MOST_FIELDS) {
                never(tree, "rule 11: " + fields + " fields");
            }
            return super.visitClass(tree, none);
        }

        @Override
        public Void visitMethod(MethodTree tree, Void none) {
            ExecutableElement element = (ExecutableElement) trees.getElement(getCurrentPath());
            boolean outer = element.getEnclosingElement().getSimpleName().contentEquals("WolfKnight");
            Set<Modifier> flags = element.getModifiers();
            methods.add(element);
            if (outer && flags.contains(Modifier.PUBLIC)) {
                faceNames.add(element.getSimpleName().toString());
            } else if (outer && !flags.contains(Modifier.PRIVATE)) {
                never(tree, "rule 1: a method that is neither public nor private");
            }
            if (tree.getParameters().size() > MOST_PARAMETERS) {
                never(tree, "rule 11: too many parameters");
            }
            long from = trees.getSourcePositions().getStartPosition(unit, tree);
            long to = trees.getSourcePositions().getEndPosition(unit, tree);
            if (to > from && unit.getLineMap().getLineNumber(to) - unit.getLineMap().getLineNumber(from) >= MOST_LINES) {
                never(tree, "rule 11: a method of more than " + MOST_LINES + " lines");
            }
            Element before = inside;
            inside = element;
            calls.putIfAbsent(element, new LinkedHashSet<>());
            super.visitMethod(tree, none);
            inside = before;
            return null;
        }

        @Override
        public Void visitMethodInvocation(MethodInvocationTree tree, Void none) {
            Element called = elementOf(tree.getMethodSelect());
            if (called != null && called.getKind() == ElementKind.METHOD) {
                String name = called.getEnclosingElement() + "." + called.getSimpleName();
                if (name.startsWith("java")) {
                    if (!LIBRARY.contains(name)) {
                        never(tree, "rule 4: " + name);
                    }
                } else if (inside != null) {
                    calls.get(inside).add(called);
                }
            }
            return super.visitMethodInvocation(tree, none);
        }

        @Override
        public Void visitNewClass(NewClassTree tree, Void none) {
            if (tree.getClassBody() != null) {
                never(tree, "rule 2: an anonymous class");
            }
            if (inside != null && inside.getKind() == ElementKind.METHOD) {
                never(tree, "an object made in a call: make it in the constructor");
            }
            return super.visitNewClass(tree, none);
        }

        @Override
        public Void visitNewArray(com.sun.source.tree.NewArrayTree tree, Void none) {
            if (inside != null && inside.getKind() == ElementKind.METHOD) {
                never(tree, "an array made in a call: make it in the constructor");
            }
            return super.visitNewArray(tree, none);
        }

        @Override
        public Void visitBinary(BinaryTree tree, Void none) {
            if (trees.getTypeMirror(getCurrentPath()).toString().equals("java.lang.String")) {
                never(tree, "rule 10: texts joined by +");
            }
            return super.visitBinary(tree, none);
        }

        @Override
        public Void visitThrow(ThrowTree tree, Void none) {
            never(tree, "rule 6: throw");
            return super.visitThrow(tree, none);
        }

        @Override
        public Void visitTry(TryTree tree, Void none) {
            never(tree, "rule 6: try");
            return super.visitTry(tree, none);
        }

        @Override
        public Void visitSynchronized(SynchronizedTree tree, Void none) {
            never(tree, "rule 6: synchronized");
            return super.visitSynchronized(tree, none);
        }

        @Override
        public Void visitAssert(AssertTree tree, Void none) {
            never(tree, "rule 6: assert");
            return super.visitAssert(tree, none);
        }

        @Override
        public Void visitLambdaExpression(LambdaExpressionTree tree, Void none) {
            never(tree, "rule 2: a lambda");
            return super.visitLambdaExpression(tree, none);
        }

        @Override
        public Void visitMemberReference(MemberReferenceTree tree, Void none) {
            never(tree, "rule 2: a method reference");
            return super.visitMemberReference(tree, none);
        }

        @Override
        public Void visitTypeCast(TypeCastTree tree, Void none) {
            if (!trees.getTypeMirror(getCurrentPath()).getKind().isPrimitive()) {
                never(tree, "rule 6: a cast of objects");
            }
            return super.visitTypeCast(tree, none);
        }

        @Override
        public Void visitLiteral(LiteralTree tree, Void none) {
            if (tree.getKind() == Tree.Kind.DOUBLE_LITERAL || tree.getKind() == Tree.Kind.FLOAT_LITERAL) {
                never(tree, "no fractions are needed here");
            }
            return super.visitLiteral(tree, none);
        }

        @Override
        public Void visitAssignment(AssignmentTree tree, Void none) {
            constantStays(tree.getVariable());
            return super.visitAssignment(tree, none);
        }

        @Override
        public Void visitCompoundAssignment(CompoundAssignmentTree tree, Void none) {
            constantStays(tree.getVariable());
            return super.visitCompoundAssignment(tree, none);
        }

        private void constantStays(Tree target) {
            if (target.toString().startsWith("MONTH_LENGTHS")) {
                never(target, "rule 5: a constant array is changed");
            }
        }

        /** Names, the number of classes, and how deep calls go, all recursions left out. */
        void close() {
            for (ExecutableElement method : methods) {
                boolean named = method.getKind() == ElementKind.METHOD;
                boolean ofFace = method.getModifiers().contains(Modifier.PUBLIC);
                if (named && !ofFace && faceNames.contains(method.getSimpleName().toString())) {
                    blame("rule 1: an inner method bears the public name " + method.getSimpleName());
                }
            }
            if (classes > MOST_CLASSES) {
                blame("rule 11: " + classes + " classes");
            }
            int deepest = 0;
            for (Element method : calls.keySet()) {
                int deep = depthOf(method, new LinkedHashSet<>());
                deepest = Math.max(deepest, deep);
                if (deep > MOST_DEEP) {
                    blame("rule 11: calls from " + method + " go " + deep + " deep");
                }
            }
            System.out.println("LanguageTest: calls go " + deepest + " deep, recursions left out");
        }

        private boolean reaches(Element from, Element to, Set<Element> seen) {
            for (Element called : calls.getOrDefault(from, Set.of())) {
                if (called.equals(to) || seen.add(called) && reaches(called, to, seen)) {
                    return true;
                }
            }
            return false;
        }

        private int depthOf(Element method, Set<Element> open) {
            int deepest = 0;
            open.add(method);
            for (Element called : calls.getOrDefault(method, Set.of())) {
                if (!open.contains(called)) {
                    deepest = Math.max(deepest, depthOf(called, open));
                }
            }
            open.remove(method);
            boolean recursion = reaches(method, method, new LinkedHashSet<>());
            return deepest + (recursion ? 0 : 1);
        }
    }

    private static void readSource() throws IOException {
        JavaCompiler compiler = ToolProvider.getSystemJavaCompiler();
        try (StandardJavaFileManager files = compiler.getStandardFileManager(null, null, null)) {
            JavacTask task = (JavacTask) compiler.getTask(null, files, null, List.of("-proc:none"), null,
                    files.getJavaFileObjects(new File(SOURCE)));
            CompilationUnitTree unit = task.parse().iterator().next();
            task.analyze();
            if (unit.getPackageName() != null || !unit.getImports().isEmpty() || unit.getTypeDecls().size() != 1) {
                blame("a package, an import or a second class");
            }
            Scanner scanner = new Scanner(Trees.instance(task), unit);
            scanner.scan(unit, null);
            scanner.close();
        }
    }

    /** The document's face, line by line, is what the class shows, and no more. */
    private static void compareFace() throws IOException {
        Set<String> due = new TreeSet<>();
        boolean open = false;
        for (String line : Files.readAllLines(Path.of(DOCUMENT))) {
            if (line.startsWith("```")) {
                open = line.startsWith("```java");
            } else if (open && line.contains("(")) {
                due.add(line.strip().replaceAll("(\\w+) \\w+([,)])", "$1$2").replaceAll("[;]| final", ""));
            }
        }
        Set<String> shown = new TreeSet<>();
        for (java.lang.reflect.Method method : WolfKnight.class.getDeclaredMethods()) {
            if (!java.lang.reflect.Modifier.isPrivate(method.getModifiers())) {
                shown.add(method.toString().replace("WolfKnight.", "").replace(",", ", "));
            }
        }
        for (java.lang.reflect.Constructor<?> maker : WolfKnight.class.getDeclaredConstructors()) {
            shown.add(maker.toString());
        }
        if (!due.equals(shown)) {
            blame("the face is " + shown + ", due is " + due);
        }
        System.out.println("LanguageTest: " + due.size() + " methods and constructors in the face");
    }

    public static void main(String[] args) throws IOException {
        readSource();
        compareFace();
        System.out.println("LanguageTest: " + wrong + " wrong");
        if (wrong > 0) {
            System.exit(1);
        }
    }
}
