import com.sun.source.tree.CompilationUnitTree;
import com.sun.source.tree.MethodInvocationTree;
import com.sun.source.tree.MethodTree;
import com.sun.source.tree.NewClassTree;
import com.sun.source.util.JavacTask;
import com.sun.source.util.TreePathScanner;
import com.sun.source.util.Trees;
import java.io.IOException;
import java.nio.file.Path;
import java.util.ArrayList;
import java.util.HashMap;
import java.util.LinkedHashSet;
import java.util.List;
import java.util.Map;
import java.util.Set;
import javax.lang.model.element.Element;
import javax.tools.JavaCompiler;
import javax.tools.StandardJavaFileManager;
import javax.tools.ToolProvider;

/** Rule 11 of LANGUAGE.md: calls that are no recursion go at most eight deep. Run where src is. */
final class DepthTest extends TreePathScanner<Void, Void> {
    private static final Check C = new Check("depth");

    private final Trees trees;
    private final Map<Element, Set<Element>> calls = new HashMap<>();
    private Element caller;

    private DepthTest(Trees trees) {
        this.trees = trees;
    }

    public static void main(String[] args) throws IOException {
        JavaCompiler compiler = ToolProvider.getSystemJavaCompiler();
        try (StandardJavaFileManager files = compiler.getStandardFileManager(null, null, null)) {
            JavacTask task = (JavacTask) compiler.getTask(null, files, null, List.of("-proc:none"), null,
                files.getJavaFileObjects(Path.of("src/main/java/ForceNet.java")));
            Iterable<? extends CompilationUnitTree> units = task.parse();
            task.analyze();
            DepthTest test = new DepthTest(Trees.instance(task));
            for (CompilationUnitTree unit : units) {
                test.scan(unit, null);
            }
            test.tell();
        }
        C.end();
    }

    private void tell() {
        for (Element method : calls.keySet()) {
            List<Element> way = longest(method, new ArrayList<>(List.of(method)));
            C.due("at most eight deep: " + way, way.size() <= 8 ? 1 : 0, 1);
        }
    }

    /** The longest way of calls on which no method comes twice. */
    private List<Element> longest(Element method, List<Element> open) {
        List<Element> best = new ArrayList<>(open);
        for (Element callee : calls.getOrDefault(method, Set.of())) {
            if (calls.containsKey(callee) && !open.contains(callee)) {
                open.add(callee);
                List<Element> way = longest(callee, open);
                open.remove(open.size() - 1);
                best = way.size() > best.size() ? way : best;
            }
        }
        return best;
    }

    @Override
    public Void visitMethod(MethodTree tree, Void nothing) {
        caller = trees.getElement(getCurrentPath());
        calls.put(caller, new LinkedHashSet<>());
        return super.visitMethod(tree, nothing);
    }

    @Override
    public Void visitMethodInvocation(MethodInvocationTree tree, Void nothing) {
        note();
        return super.visitMethodInvocation(tree, nothing);
    }

    @Override
    public Void visitNewClass(NewClassTree tree, Void nothing) {
        note();
        return super.visitNewClass(tree, nothing);
    }

    private void note() {
        if (caller != null) {
            calls.get(caller).add(trees.getElement(getCurrentPath()));
        }
    }
}
