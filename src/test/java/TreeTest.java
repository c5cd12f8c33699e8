import com.sun.source.tree.ClassTree;
import com.sun.source.tree.CompilationUnitTree;
import com.sun.source.tree.ExpressionTree;
import com.sun.source.tree.LineMap;
import com.sun.source.tree.MemberSelectTree;
import com.sun.source.tree.MethodInvocationTree;
import com.sun.source.tree.MethodTree;
import com.sun.source.tree.NewArrayTree;
import com.sun.source.tree.NewClassTree;
import com.sun.source.util.JavacTask;
import com.sun.source.util.TreePathScanner;
import com.sun.source.util.Trees;
import java.io.IOException;
import java.nio.file.Path;
import java.util.ArrayList;
import java.util.HashMap;
import java.util.LinkedHashSet;
import java.util.List;
import java.util.Map;
import java.util.Set;
import javax.lang.model.element.Element;
import javax.lang.model.element.ElementKind;
import javax.lang.model.element.ExecutableElement;
import javax.lang.model.element.Modifier;
import javax.lang.model.element.TypeElement;
import javax.tools.JavaCompiler;
import javax.tools.StandardJavaFileManager;
import javax.tools.ToolProvider;

/**
 * What of LANGUAGE.md can be seen in the program's tree, as javac reads it: how deep calls go and which call
 * themselves (8, 11), what of the library is called (4), where objects are made (12), how long methods are (11).
 * Run from the project's folder.
 */
public final class TreeTest {
    private static final Check CHECK = new Check();
    private static final Path PROGRAM = Path.of("src/main/java/CrownTwo.java");
    private static final int DEEPEST = 8, LONGEST = 60;
    private static final Set<String> LIBRARY = Set.of(
            "String.length", "String.charAt", "System.arraycopy", "Math.max", "Math.min", "Integer.bitCount");
    /** The one that calls itself: a step deeper each time, four at most. */
    private static final String RECURSIVE = "CrownTwo.tryFrom";

    private final Map<String, ExecutableElement> methods = new HashMap<>();
    private final Map<String, Set<String>> calls = new HashMap<>();
    private final Set<String> selfCalls = new LinkedHashSet<>();
    private final JavacTask task;

    private TreeTest(JavacTask task) {
        this.task = task;
    }

    public static void main(String[] args) throws IOException {
        JavaCompiler compiler = ToolProvider.getSystemJavaCompiler();
        try (StandardJavaFileManager files = compiler.getStandardFileManager(null, null, null)) {
            JavacTask task = (JavacTask) compiler.getTask(null, files, null, List.of("-proc:none"), null,
                    files.getJavaFileObjects(PROGRAM));
            Iterable<? extends CompilationUnitTree> units = task.parse();
            task.analyze();
            TreeTest test = new TreeTest(task);
            for (CompilationUnitTree unit : units) test.new Scanner(unit).scan(unit, null);
            test.depths();
        }
        CHECK.end("TreeTest");
    }

    /** Rules 8 and 11: from each public call on, none goes deeper, and none but the one calls itself. */
    private void depths() {
        int publics = 0;
        for (String name : calls.keySet()) {
            if (!methods.get(name).getModifiers().contains(Modifier.PUBLIC)) continue;
            publics++;
            List<String> chain = deepest(name, new ArrayList<>());
            CHECK.due("at most " + DEEPEST + " deep: " + chain, chain.size() <= DEEPEST ? 1 : 0, 1);
        }
        CHECK.due("public calls and the constructor", publics, 35);
        CHECK.due("calls itself: " + selfCalls, selfCalls.equals(Set.of(RECURSIVE)) ? 1 : 0, 1);
    }

    private List<String> deepest(String name, List<String> open) {
        List<String> chain = new ArrayList<>(open);
        chain.add(name);
        List<String> best = chain;
        for (String called : calls.getOrDefault(name, Set.of())) {
            if (chain.contains(called)) {
                selfCalls.add(called);
                continue;
            }
            List<String> longer = deepest(called, chain);
            if (longer.size() > best.size()) best = longer;
        }
        return best;
    }

    private static String nameOf(Element method) {
        Element owner = method.getEnclosingElement();
        String name = method.getKind() == ElementKind.CONSTRUCTOR ? "new" : method.getSimpleName().toString();
        return owner.getSimpleName() + "." + name;
    }

    private static boolean ofProgram(Element element) {
        Element at = element;
        while (at != null && !at.getSimpleName().contentEquals("CrownTwo")) at = at.getEnclosingElement();
        return at != null;
    }

    private final class Scanner extends TreePathScanner<Void, Void> {
        private final Trees trees = Trees.instance(task);
        private final CompilationUnitTree unit;
        private final LineMap lines;
        private final List<TypeElement> classes = new ArrayList<>();
        private String method = "";

        Scanner(CompilationUnitTree unit) {
            this.unit = unit;
            lines = unit.getLineMap();
        }

        @Override
        public Void visitCompilationUnit(CompilationUnitTree tree, Void none) {
            for (var type : tree.getTypeDecls()) {
                TypeElement outer = (TypeElement) trees.getElement(trees.getPath(unit, type));
                classes.add(outer);
                for (Element inner : outer.getEnclosedElements()) {
                    if (inner instanceof TypeElement inside) classes.add(inside);
                }
            }
            return super.visitCompilationUnit(tree, none);
        }

        @Override
        public Void visitMethod(MethodTree tree, Void none) {
            ExecutableElement element = (ExecutableElement) trees.getElement(getCurrentPath());
            String outerMethod = method;
            method = nameOf(element);
            CHECK.due("one method of the name " + method, methods.put(method, element) == null ? 1 : 0, 1);
            calls.computeIfAbsent(method, key -> new LinkedHashSet<>());
            long end = trees.getSourcePositions().getEndPosition(unit, tree);
            if (end >= 0) {
                long begin = trees.getSourcePositions().getStartPosition(unit, tree);
                long length = lines.getLineNumber(end) - lines.getLineNumber(begin) + 1;
                CHECK.due("lines of " + method + ": " + length, length <= LONGEST ? 1 : 0, 1);
            }
            super.visitMethod(tree, none);
            method = outerMethod;
            return null;
        }

        @Override
        public Void visitClass(ClassTree tree, Void none) {
            String outerMethod = method;
            method = "";
            super.visitClass(tree, none);
            method = outerMethod;
            return null;
        }

        @Override
        public Void visitMethodInvocation(MethodInvocationTree tree, Void none) {
            ExecutableElement called = (ExecutableElement) trees.getElement(getCurrentPath());
            String name = nameOf(called);
            if (called.getKind() == ElementKind.CONSTRUCTOR) return super.visitMethodInvocation(tree, none);
            if (!ofProgram(called)) {
                CHECK.due("of the library: " + name, LIBRARY.contains(name) ? 1 : 0, 1);
            } else if (throughSuper(tree.getMethodSelect())) {
                calls.get(method).add(name);
            } else {
                for (TypeElement type : classes) addIfItMayRun(type, called);
            }
            return super.visitMethodInvocation(tree, none);
        }

        private boolean throughSuper(ExpressionTree select) {
            return select instanceof MemberSelectTree member && member.getExpression().toString().equals("super");
        }

        /** The method that is named, and those that stand over it in the classes under its own. */
        private void addIfItMayRun(TypeElement type, ExecutableElement called) {
            for (Element member : type.getEnclosedElements()) {
                if (!(member instanceof ExecutableElement one)) continue;
                if (one.equals(called) || task.getElements().overrides(one, called, type)) {
                    calls.get(method).add(nameOf(one));
                }
            }
        }

        @Override
        public Void visitNewClass(NewClassTree tree, Void none) {
            madeOnlyWhenNew(tree.toString());
            return super.visitNewClass(tree, none);
        }

        @Override
        public Void visitNewArray(NewArrayTree tree, Void none) {
            madeOnlyWhenNew(tree.toString());
            return super.visitNewArray(tree, none);
        }

        /** All calls of a run live in one room: only a new object takes some of it. */
        private void madeOnlyWhenNew(String what) {
            CHECK.due(what + " is made in " + method, method.isEmpty() || method.endsWith(".new") ? 1 : 0, 1);
        }
    }
}
