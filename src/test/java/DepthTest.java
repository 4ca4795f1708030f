import com.sun.source.tree.MethodInvocationTree;
import com.sun.source.tree.MethodTree;
import com.sun.source.util.JavacTask;
import com.sun.source.util.TreePathScanner;
import com.sun.source.util.Trees;
import java.io.IOException;
import java.nio.file.Path;
import java.util.HashMap;
import java.util.LinkedHashMap;
import java.util.List;
import java.util.Map;
import java.util.Set;
import java.util.TreeSet;
import javax.lang.model.element.Element;
import javax.tools.JavaCompiler;
import javax.tools.StandardJavaFileManager;
import javax.tools.ToolProvider;

/** LANGUAGE.md, rules 8 and 11: which methods call themselves, and how deep calls go that are no recursion. */
public final class DepthTest {
    private static final Path SOURCE = Path.of("src/main/java/StormSlots.java");
    private static final int MOST_DEEP = 8;
    /** Its depth is an argument, and six FLIGHTS at most bound it. */
    private static final Set<String> CALL_THEMSELVES = Set.of("OrderSearch.lay");

    /** Of each method of the source, those of the source that it calls. */
    private final Map<String, Set<String>> calls = new LinkedHashMap<>();
    private final Map<String, Integer> depths = new HashMap<>();
    private final Set<String> open = new TreeSet<>();
    private final Set<String> recursive = new TreeSet<>();

    private void read() throws IOException {
        JavaCompiler javac = ToolProvider.getSystemJavaCompiler();
        try (StandardJavaFileManager files = javac.getStandardFileManager(null, null, null)) {
            JavacTask task = (JavacTask) javac.getTask(null, files, null, List.of("-proc:none"), null, files.getJavaFileObjects(SOURCE));
            var units = task.parse();
            task.analyze();
            for (var unit : units) new Gatherer(Trees.instance(task)).scan(unit, "");
        }
    }

    private static String nameOf(Element method) {
        return method.getEnclosingElement().getSimpleName() + "." + method.getSimpleName();
    }

    private final class Gatherer extends TreePathScanner<Void, String> {
        private final Trees trees;

        Gatherer(Trees trees) {
            this.trees = trees;
        }

        @Override
        public Void visitMethod(MethodTree method, String within) {
            String name = nameOf(trees.getElement(getCurrentPath()));
            calls.computeIfAbsent(name, n -> new TreeSet<>());
            return super.visitMethod(method, name);
        }

        @Override
        public Void visitMethodInvocation(MethodInvocationTree call, String within) {
            Element called = trees.getElement(getCurrentPath());
            if (called != null && calls.containsKey(within)) calls.get(within).add(nameOf(called));
            return super.visitMethodInvocation(call, within);
        }
    }

    /** The method itself counts 1; a call of one that stands open is recursion and is told apart. */
    private int depthOf(String method) {
        if (depths.containsKey(method)) return depths.get(method);
        int deepest = 0;
        open.add(method);
        for (String called : calls.get(method)) {
            if (!calls.containsKey(called)) continue;
            if (open.contains(called)) recursive.add(called);
            else deepest = Math.max(deepest, depthOf(called));
        }
        open.remove(method);
        depths.put(method, deepest + 1);
        return deepest + 1;
    }

    public static void main(String[] args) throws IOException {
        DepthTest test = new DepthTest();
        test.read();
        int wrong = 0;
        int most = 0;
        for (String method : test.calls.keySet()) {
            int deep = test.depthOf(method);
            most = Math.max(most, deep);
            if (deep > MOST_DEEP) {
                wrong++;
                System.out.println("LANGUAGE.md: rule 11, calls of " + method + " go " + deep + " deep");
            }
        }
        if (!test.recursive.equals(CALL_THEMSELVES)) {
            wrong++;
            System.out.println("LANGUAGE.md: rule 8, these call themselves: " + test.recursive);
        }
        System.out.println(test.calls.size() + " methods, calls go " + most + " deep");
        // fewer than the face has: the source was not read
        if (wrong != 0 || test.calls.size() < 46) System.exit(1);
    }
}
