import com.sun.source.tree.ClassTree;
import com.sun.source.tree.CompilationUnitTree;
import com.sun.source.tree.MethodInvocationTree;
import com.sun.source.tree.MethodTree;
import com.sun.source.tree.NewArrayTree;
import com.sun.source.tree.NewClassTree;
import com.sun.source.util.JavacTask;
import com.sun.source.util.TreePathScanner;
import com.sun.source.util.Trees;
import java.io.File;
import java.util.ArrayList;
import java.util.HashMap;
import java.util.LinkedHashSet;
import java.util.List;
import java.util.Map;
import java.util.Set;
import javax.lang.model.element.Element;
import javax.lang.model.element.ElementKind;
import javax.lang.model.element.Modifier;
import javax.tools.JavaCompiler;
import javax.tools.StandardJavaFileManager;
import javax.tools.ToolProvider;

/**
 * What the class calls, read by the compiler itself: of the library only what LANGUAGE.md lists, at most eight calls
 * deep without recursion, and nothing made but by a constructor.
 */
public final class FogArrowsCalls {
    private static final Set<String> LIBRARY = Set.of("java.lang.System.arraycopy", "java.lang.Math.min",
        "java.lang.Math.max", "java.lang.Math.abs", "java.lang.Integer.bitCount", "java.lang.String.length",
        "java.lang.String.charAt", "java.lang.String.indexOf");
    private static int wrong = 0;

    private final Map<Element, Set<Element>> calls = new HashMap<>();
    private final Set<Element> beginnings = new LinkedHashSet<>();
    private final List<Element> open = new ArrayList<>();

    private static void must(boolean holds, String what) {
        if (!holds) {
            wrong++;
            System.out.println("calls: " + what);
        }
    }

    private static String name(Element e) {
        return e.getEnclosingElement() + "." + e.getSimpleName();
    }

    /** Notes who calls whom; a row or an object that a field holds is made by the constructor. */
    private final class Reading extends TreePathScanner<Void, Void> {
        private final Trees trees;
        private Element within;

        Reading(Trees trees) {
            this.trees = trees;
        }

        @Override
        public Void visitClass(ClassTree t, Void v) {
            Element was = within;
            within = null;
            super.visitClass(t, v);
            within = was;
            return null;
        }

        @Override
        public Void visitMethod(MethodTree t, Void v) {
            Element was = within;
            within = trees.getElement(getCurrentPath());
            calls.putIfAbsent(within, new LinkedHashSet<>());
            if (within.getModifiers().contains(Modifier.PUBLIC)) {
                beginnings.add(within);
            }
            super.visitMethod(t, v);
            within = was;
            return null;
        }

        @Override
        public Void visitMethodInvocation(MethodInvocationTree t, Void v) {
            Element called = trees.getElement(getCurrentPath());
            if (within != null && called.getKind() == ElementKind.METHOD) {
                calls.get(within).add(called);
            }
            must(!name(called).startsWith("java.") || called.getKind() == ElementKind.CONSTRUCTOR
                || LIBRARY.contains(name(called)), "4: " + name(called));
            return super.visitMethodInvocation(t, v);
        }

        @Override
        public Void visitNewClass(NewClassTree t, Void v) {
            made(t);
            return super.visitNewClass(t, v);
        }

        @Override
        public Void visitNewArray(NewArrayTree t, Void v) {
            made(t);
            return super.visitNewArray(t, v);
        }

        private void made(Object what) {
            must(within == null || within.getKind() == ElementKind.CONSTRUCTOR, "12: " + what + " in " + within);
        }
    }

    private int depth(Element method) {
        if (open.contains(method)) {
            must(false, "8: " + name(method) + " calls itself");
            return 0;
        }
        int deepest = 0;
        open.add(method);
        for (Element called : calls.getOrDefault(method, Set.of())) {
            deepest = Math.max(deepest, depth(called));
        }
        open.remove(open.size() - 1);
        return deepest + 1;
    }

    private void read() throws Exception {
        JavaCompiler javac = ToolProvider.getSystemJavaCompiler();
        try (StandardJavaFileManager files = javac.getStandardFileManager(null, null, null)) {
            JavacTask task = (JavacTask) javac.getTask(null, files, null, List.of("-proc:none"), null,
                files.getJavaFileObjects(new File("src/main/java/FogArrows.java")));
            Iterable<? extends CompilationUnitTree> units = task.parse();
            task.analyze();
            for (CompilationUnitTree unit : units) {
                new Reading(Trees.instance(task)).scan(unit, null);
            }
        }
    }

    public static void main(String[] args) throws Exception {
        FogArrowsCalls all = new FogArrowsCalls();
        all.read();
        must(all.beginnings.size() == 37, "promises: " + all.beginnings.size());
        for (Element e : all.beginnings) {
            must(all.depth(e) <= 8, "11: " + name(e) + " goes " + all.depth(e) + " deep");
        }
        System.out.println(wrong == 0 ? "calls: as LANGUAGE.md asks" : "calls: " + wrong + " not as LANGUAGE.md asks");
        if (wrong != 0) {
            System.exit(1);
        }
    }
}
