import com.sun.source.tree.BinaryTree;
import com.sun.source.tree.CompilationUnitTree;
import com.sun.source.tree.MethodInvocationTree;
import com.sun.source.tree.MethodTree;
import com.sun.source.tree.NewClassTree;
import com.sun.source.tree.Tree;
import com.sun.source.tree.TypeCastTree;
import com.sun.source.tree.VariableTree;
import com.sun.source.util.JavacTask;
import com.sun.source.util.TreePath;
import com.sun.source.util.TreePathScanner;
import com.sun.source.util.Trees;
import java.util.ArrayList;
import java.util.Arrays;
import java.util.HashSet;
import java.util.LinkedHashMap;
import java.util.LinkedHashSet;
import java.util.List;
import java.util.Map;
import java.util.Set;
import javax.lang.model.element.Element;
import javax.lang.model.element.ElementKind;
import javax.lang.model.element.Modifier;
import javax.lang.model.element.TypeElement;
import javax.lang.model.util.ElementFilter;
import javax.tools.JavaCompiler;
import javax.tools.StandardJavaFileManager;
import javax.tools.ToolProvider;

/** What LANGUAGE.md says of calls, seen in the compiler's own tree: who calls whom, how deep, what of the library. */
public final class CallsTest {
    private static final Due DUE = new Due("CallsTest");
    private static final String SOURCE = "src/main/java/MoonDials.java";
    private static final int MOST_DEEP = 8;
    /** Of rule 4, as far as the class has any use for it. */
    private static final Set<String> LIBRARY = new HashSet<>(Arrays.asList("java.lang.String.length",
        "java.lang.String.charAt", "java.lang.String.indexOf", "java.lang.Math.max", "java.lang.Math.min",
        "java.lang.Integer.bitCount", "java.lang.System.arraycopy", "java.lang.Object.<init>"));

    private CallsTest() {
    }

    public static void main(String[] args) throws Exception {
        Map<Element, Set<Element>> calls = callsOf(SOURCE);
        DUE.isTrue("calls are found", calls.size() > 100);
        library(calls);
        recursion(calls);
        for (Element method : calls.keySet()) {
            List<String> chain = deepest(method, calls, new HashSet<>());
            DUE.isTrue(MOST_DEEP + " deep at most: " + chain, chain.size() <= MOST_DEEP);
        }
        DUE.end();
    }

    private static Map<Element, Set<Element>> callsOf(String source) throws Exception {
        JavaCompiler compiler = ToolProvider.getSystemJavaCompiler();
        try (StandardJavaFileManager files = compiler.getStandardFileManager(null, null, null)) {
            JavacTask task = (JavacTask) compiler.getTask(null, files, null, List.of("-proc:none"), null,
                files.getJavaFileObjects(source));
            Iterable<? extends CompilationUnitTree> units = task.parse();
            task.analyze();
            Scan scan = new Scan(Trees.instance(task));
            scan.scan(units, null);
            return scan.calls;
        }
    }

    private static String name(Element method) {
        Element owner = method.getEnclosingElement();
        String of = owner instanceof TypeElement ? ((TypeElement) owner).getQualifiedName().toString() : "";
        return of + "." + method.getSimpleName();
    }

    private static void library(Map<Element, Set<Element>> calls) {
        for (Set<Element> called : calls.values()) {
            for (Element method : called) {
                DUE.isTrue("its own or of the library: " + name(method),
                    calls.containsKey(method) || LIBRARY.contains(name(method)));
            }
        }
    }

    /** A private static method may call itself; nothing else comes back to where it was called. */
    private static void recursion(Map<Element, Set<Element>> calls) {
        for (Element method : calls.keySet()) {
            boolean isFree = method.getModifiers().containsAll(Set.of(Modifier.PRIVATE, Modifier.STATIC));
            DUE.isTrue("calls itself: " + name(method), isFree || !calls.get(method).contains(method));
            for (Element called : calls.get(method)) {
                DUE.isTrue("comes round to itself: " + name(method) + " by " + name(called),
                    called == method || !reaches(called, method, calls, new HashSet<>()));
            }
        }
    }

    private static boolean reaches(Element from, Element to, Map<Element, Set<Element>> calls, Set<Element> seen) {
        if (from == to) {
            return true;
        }
        boolean found = false;
        if (seen.add(from)) {
            for (Element next : calls.getOrDefault(from, Set.of())) {
                found = found || reaches(next, to, calls, seen);
            }
        }
        return found;
    }

    private static List<String> deepest(Element method, Map<Element, Set<Element>> calls, Set<Element> open) {
        List<String> best = new ArrayList<>();
        if (!open.add(method)) {
            return best;
        }
        for (Element called : calls.getOrDefault(method, Set.of())) {
            List<String> chain = deepest(called, calls, open);
            best = chain.size() > best.size() ? chain : best;
        }
        open.remove(method);
        List<String> whole = new ArrayList<>(best);
        whole.add(0, name(method));
        return whole;
    }

    /** Collects the calls; a field's initialiser counts for every constructor of its class. */
    private static final class Scan extends TreePathScanner<Void, Void> {
        final Map<Element, Set<Element>> calls = new LinkedHashMap<>();
        private final Trees trees;
        private Set<Element> callers = new HashSet<>();

        Scan(Trees trees) {
            this.trees = trees;
        }

        private Element element() {
            return trees.getElement(getCurrentPath());
        }

        private void add(Element called) {
            for (Element caller : callers) {
                calls.computeIfAbsent(caller, c -> new LinkedHashSet<>()).add(called);
            }
        }

        private boolean isPrimitive(Tree part) {
            return trees.getTypeMirror(new TreePath(getCurrentPath(), part)).getKind().isPrimitive();
        }

        @Override
        public Void visitMethod(MethodTree tree, Void none) {
            callers = Set.of(element());
            calls.computeIfAbsent(element(), c -> new LinkedHashSet<>());
            super.visitMethod(tree, none);
            callers = new HashSet<>();
            return null;
        }

        @Override
        public Void visitVariable(VariableTree tree, Void none) {
            if (element() == null || element().getKind() != ElementKind.FIELD) {
                return super.visitVariable(tree, none);
            }
            callers = new HashSet<>(ElementFilter.constructorsIn(element().getEnclosingElement().getEnclosedElements()));
            super.visitVariable(tree, none);
            callers = new HashSet<>();
            return null;
        }

        @Override
        public Void visitMethodInvocation(MethodInvocationTree tree, Void none) {
            add(element());
            return super.visitMethodInvocation(tree, none);
        }

        @Override
        public Void visitNewClass(NewClassTree tree, Void none) {
            add(element());
            return super.visitNewClass(tree, none);
        }

        @Override
        public Void visitTypeCast(TypeCastTree tree, Void none) {
            DUE.isTrue("a cast among numbers: " + tree, isPrimitive(tree.getType()) && isPrimitive(tree.getExpression()));
            return super.visitTypeCast(tree, none);
        }

        @Override
        public Void visitBinary(BinaryTree tree, Void none) {
            DUE.isTrue("of numbers and truths: " + tree,
                isPrimitive(tree.getLeftOperand()) && isPrimitive(tree.getRightOperand()));
            return super.visitBinary(tree, none);
        }
    }
}
