import com.sun.source.tree.CompilationUnitTree;
import com.sun.source.util.JavacTask;
import com.sun.source.util.Trees;
import java.io.IOException;
import java.nio.file.Files;
import java.nio.file.Path;
import java.util.HashSet;
import java.util.List;
import java.util.Map;
import java.util.Set;
import javax.lang.model.element.ElementKind;
import javax.lang.model.element.ExecutableElement;
import javax.lang.model.element.Modifier;
import javax.lang.model.element.TypeElement;
import javax.lang.model.util.Elements;
import javax.tools.JavaCompiler;
import javax.tools.StandardJavaFileManager;
import javax.tools.ToolProvider;

/** The source keeps to those rules of LANGUAGE.md that can be seen in its text. */
public final class SourceTest {
    private static final Checks CHECKS = new Checks();
    private static final Path SOURCE = Path.of("src/main/java/TaintScanner.java");
    private static final int MOST_CLASSES = 12;
    private static final int DEEPEST_CALLS = 8;

    private final Map<ExecutableElement, Set<ExecutableElement>> calls;
    private final Elements elements;

    private SourceTest(SourceScan scan, Elements elements) {
        calls = scan.calls;
        this.elements = elements;
    }

    public static void main(String[] args) throws IOException {
        CHECKS.holds("rule 3: characters 0 to 255 alone", Files.readString(SOURCE).chars().allMatch(c -> c < 256));
        JavaCompiler compiler = ToolProvider.getSystemJavaCompiler();
        try (StandardJavaFileManager files = compiler.getStandardFileManager(null, null, null)) {
            List<String> options = List.of("--release", "17", "-proc:none");
            JavacTask task = (JavacTask) compiler.getTask(null, files, null, options, null, files.getJavaFileObjects(SOURCE));
            CompilationUnitTree unit = task.parse().iterator().next();
            task.analyze();
            SourceScan scan = new SourceScan(CHECKS, Trees.instance(task), unit);
            scan.scan(unit, null);
            whole(unit, scan);
            new SourceTest(scan, task.getElements()).callsOfTheFace(scan.makers);
        }
        CHECKS.close("SourceTest");
    }

    private static void whole(CompilationUnitTree unit, SourceScan scan) {
        CHECKS.holds("no package", unit.getPackage() == null);
        CHECKS.holds("rule 4: imports " + unit.getImports(), unit.getImports().stream()
                .allMatch(i -> i.toString().strip().equals("import java.util.Arrays;")));
        CHECKS.same("one outer class", unit.getTypeDecls().size(), 1);
        CHECKS.holds("rule 11: at most twelve classes, not " + scan.classes, scan.classes <= MOST_CLASSES);
    }

    /** Every call of the face ends in few calls, none of which comes to itself again or makes an object. */
    private void callsOfTheFace(Set<ExecutableElement> makers) {
        for (ExecutableElement m : calls.keySet()) {
            boolean face = m.getModifiers().contains(Modifier.PUBLIC);
            if (!face) {
                continue;
            }
            int depth = depth(m, new HashSet<>());
            CHECKS.holds("rules 8 and 11: calls of " + m + " go eight deep at most, not " + depth, depth <= DEEPEST_CALLS);
            Set<ExecutableElement> reached = new HashSet<>();
            reach(m, reached);
            reached.retainAll(makers);
            CHECKS.holds("rule 12: " + m + " makes no object", reached.isEmpty() || m.getKind() == ElementKind.CONSTRUCTOR);
        }
    }

    /** How many calls stand open at once at most, with this one; a call that comes to itself counts as very deep. */
    private int depth(ExecutableElement m, Set<ExecutableElement> open) {
        if (!open.add(m)) {
            return 1000;
        }
        int deepest = 0;
        for (ExecutableElement called : allCalled(m)) {
            deepest = Math.max(deepest, depth(called, open));
        }
        open.remove(m);
        return deepest + 1;
    }

    private void reach(ExecutableElement m, Set<ExecutableElement> reached) {
        if (reached.add(m)) {
            for (ExecutableElement called : allCalled(m)) {
                reach(called, reached);
            }
        }
    }

    /** What a method calls; for one that others override also those. */
    private Set<ExecutableElement> allCalled(ExecutableElement m) {
        Set<ExecutableElement> all = new HashSet<>();
        for (ExecutableElement called : calls.getOrDefault(m, Set.of())) {
            all.add(called);
            for (ExecutableElement other : calls.keySet()) {
                if (elements.overrides(other, called, (TypeElement) other.getEnclosingElement())) {
                    all.add(other);
                }
            }
        }
        return all;
    }
}
