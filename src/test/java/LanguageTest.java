import com.sun.source.tree.ClassTree;
import com.sun.source.tree.CompilationUnitTree;
import com.sun.source.tree.MethodInvocationTree;
import com.sun.source.tree.MethodTree;
import com.sun.source.tree.NewArrayTree;
import com.sun.source.tree.NewClassTree;
import com.sun.source.tree.VariableTree;
import com.sun.source.util.JavacTask;
import com.sun.source.util.TreePathScanner;
import com.sun.source.util.Trees;
import java.io.IOException;
import java.nio.file.Files;
import java.nio.file.Path;
import java.util.ArrayList;
import java.util.HashMap;
import java.util.HashSet;
import java.util.List;
import java.util.Map;
import java.util.Set;
import java.util.TreeSet;
import javax.lang.model.element.Element;
import javax.lang.model.element.ElementKind;
import javax.lang.model.element.ExecutableElement;
import javax.lang.model.element.Modifier;
import javax.lang.model.element.TypeElement;
import javax.tools.JavaCompiler;
import javax.tools.StandardJavaFileManager;
import javax.tools.ToolProvider;

/** Those rules of LANGUAGE.md that the compiler's own tree tells: who calls whom, what is made, of which type. */
public final class LanguageTest {
    private static final Answers ANSWERS = new Answers();
    private static final Path SOURCE = Path.of("src/main/java/FavoursGoOff.java");
    private static final Set<String> LIBRARY = Set.of("String.length", "String.charAt", "Math.max", "Math.min",
        "System.arraycopy", "Object.<init>");
    private static final Set<String> TYPES = Set.of("int", "long", "boolean", "int[]", "String");
    private static final int DEEPEST = 8, PARAMETERS_MOST = 7;

    private static Trees trees;
    private static final Map<ExecutableElement, Set<ExecutableElement>> CALLS = new HashMap<>();

    public static void main(String[] args) throws IOException {
        JavaCompiler compiler = ToolProvider.getSystemJavaCompiler();
        Path classes = Files.createTempDirectory("language");
        try (StandardJavaFileManager files = compiler.getStandardFileManager(null, null, null)) {
            List<String> options = List.of("--release", "17", "-proc:none", "-d", classes.toString());
            JavacTask task =
                (JavacTask) compiler.getTask(null, files, null, options, null, files.getJavaFileObjects(SOURCE));
            Iterable<? extends CompilationUnitTree> units = task.parse();
            task.analyze();
            trees = Trees.instance(task);
            for (CompilationUnitTree unit : units) {
                new Looker().scan(unit, null);
            }
        } finally {
            Files.delete(classes);
        }
        if (!hasRings()) {
            depth();
        }
        ANSWERS.end("LanguageTest");
    }

    /** Goes over the whole text once, and notes or holds against the rules what it comes to. */
    private static final class Looker extends TreePathScanner<Void, Void> {
        private ExecutableElement method;

        @Override
        public Void visitMethod(MethodTree tree, Void none) {
            method = (ExecutableElement) trees.getElement(getCurrentPath());
            CALLS.computeIfAbsent(method, m -> new HashSet<>());
            holds("rule 11, parameters of " + method, tree.getParameters().size() <= PARAMETERS_MOST);
            super.visitMethod(tree, none);
            method = null;
            return null;
        }

        @Override
        public Void visitMethodInvocation(MethodInvocationTree tree, Void none) {
            ExecutableElement called = (ExecutableElement) trees.getElement(getCurrentPath());
            String name = called.getEnclosingElement().getSimpleName() + "." + called.getSimpleName();
            if (isOwn(called)) {
                holds("a call outside of methods: " + name, method != null);
                CALLS.computeIfAbsent(method, m -> new HashSet<>()).add(called);
            } else {
                holds("rule 4, the library: " + name, LIBRARY.contains(name));
            }
            return super.visitMethodInvocation(tree, none);
        }

        /* Rule 12 lets any method make objects; the room is kept small by making all with the object itself. */
        @Override
        public Void visitNewClass(NewClassTree tree, Void none) {
            boolean isOwn = isOwn(trees.getElement(getCurrentPath()));
            holds("made only with the object: " + tree, isInConstruction() && isOwn);
            return super.visitNewClass(tree, none);
        }

        @Override
        public Void visitNewArray(NewArrayTree tree, Void none) {
            holds("made only with the object: " + tree, isInConstruction());
            return super.visitNewArray(tree, none);
        }

        @Override
        public Void visitVariable(VariableTree tree, Void none) {
            String type = tree.getType().toString();
            holds("rule 3, the type of " + tree, TYPES.contains(type) || isOwnClass(type));
            Element e = trees.getElement(getCurrentPath());
            if (e.getKind() == ElementKind.FIELD && e.getModifiers().contains(Modifier.STATIC)) {
                boolean isTold = tree.getInitializer() != null && e.getModifiers().contains(Modifier.FINAL);
                holds("rule 5, static and final: " + tree, isTold);
            }
            return super.visitVariable(tree, none);
        }

        @Override
        public Void visitClass(ClassTree tree, Void none) {
            holds("rule 2, no class in a method: " + tree.getSimpleName(), method == null);
            return super.visitClass(tree, none);
        }

        private boolean isInConstruction() {
            return method == null || method.getKind() == ElementKind.CONSTRUCTOR;
        }
    }

    private static boolean hasRings() {
        Map<ExecutableElement, Set<ExecutableElement>> without = new HashMap<>();
        for (ExecutableElement m : CALLS.keySet()) {
            Set<ExecutableElement> others = new HashSet<>(CALLS.get(m));
            if (others.remove(m)) {
                boolean isPlain = m.getModifiers().containsAll(Set.of(Modifier.PRIVATE, Modifier.STATIC));
                holds("rule 8, private and static, with its depth as an argument: " + m,
                    isPlain && m.getParameters().stream().anyMatch(p -> p.asType().toString().equals("int")));
            }
            without.put(m, others);
        }
        CALLS.putAll(without);
        int rings = 0;
        for (ExecutableElement m : CALLS.keySet()) {
            boolean isInRing = reached(m).contains(m);
            holds("rule 8, no ring of calls with " + m, !isInRing);
            rings += isInRing ? 1 : 0;
        }
        return rings > 0;
    }

    private static Set<ExecutableElement> reached(ExecutableElement from) {
        Set<ExecutableElement> all = new HashSet<>();
        List<ExecutableElement> open = new ArrayList<>(CALLS.get(from));
        while (!open.isEmpty()) {
            ExecutableElement next = open.remove(open.size() - 1);
            if (all.add(next)) {
                open.addAll(CALLS.getOrDefault(next, Set.of()));
            }
        }
        return all;
    }

    private static void depth() {
        Set<String> faces = new TreeSet<>();
        for (ExecutableElement m : CALLS.keySet()) {
            if (m.getModifiers().contains(Modifier.PUBLIC)) {
                faces.add(m.getSimpleName().toString());
                holds("rule 11, the calls behind " + m + " are " + deepest(m) + " deep", deepest(m) <= DEEPEST);
            }
        }
        ANSWERS.due("public methods and the constructor", faces.size(), 38);
    }

    private static int deepest(ExecutableElement m) {
        int most = 0;
        for (ExecutableElement called : CALLS.getOrDefault(m, Set.of())) {
            most = Math.max(most, deepest(called));
        }
        return most + 1;
    }

    private static boolean isOwn(Element e) {
        Element at = e;
        while (at.getEnclosingElement() instanceof TypeElement) {
            at = at.getEnclosingElement();
        }
        return at.getSimpleName().contentEquals("FavoursGoOff");
    }

    private static boolean isOwnClass(String type) {
        for (Class<?> c : FavoursGoOff.class.getDeclaredClasses()) {
            if (c.getSimpleName().equals(type)) {
                return true;
            }
        }
        return false;
    }

    private static void holds(String what, boolean isSo) {
        ANSWERS.due(what, isSo ? 1 : 0, 1);
    }
}
