import com.sun.source.tree.ClassTree;
import com.sun.source.tree.CompilationUnitTree;
import com.sun.source.tree.LineMap;
import com.sun.source.tree.MethodInvocationTree;
import com.sun.source.tree.MethodTree;
import com.sun.source.tree.NewClassTree;
import com.sun.source.util.JavacTask;
import com.sun.source.util.TreePath;
import com.sun.source.util.TreePathScanner;
import com.sun.source.util.Trees;
import java.io.IOException;
import java.nio.file.Path;
import java.util.ArrayList;
import java.util.LinkedHashMap;
import java.util.LinkedHashSet;
import java.util.List;
import java.util.Map;
import java.util.Set;
import javax.lang.model.element.Element;
import javax.lang.model.element.ElementKind;
import javax.lang.model.element.Modifier;
import javax.lang.model.element.TypeElement;
import javax.tools.JavaCompiler;
import javax.tools.StandardJavaFileManager;
import javax.tools.ToolProvider;

/** The numbers of LANGUAGE.md's rules 8, 11 and 12, counted over the source as javac reads it. */
public final class TornPagesRules {
    private static final Path SOURCE = Path.of("src/main/java/TornPages.java");
    private static final int MOST_LINES = 60;
    private static final int MOST_PARAMETERS = 7;
    private static final int MOST_DEPTH = 8;
    private static final int MOST_FIELDS = 20;
    private static final int MOST_CLASSES = 12;

    private final Map<Element, Set<Element>> calls = new LinkedHashMap<>();
    private final Set<TypeElement> classes = new LinkedHashSet<>();
    private int wrong = 0;

    public static void main(String[] args) throws IOException {
        TornPagesRules rules = new TornPagesRules();
        rules.read();
        rules.countDepth();
        rules.countClassesAndFields();
        System.out.println(rules.wrong == 0 ? "the rules' numbers are kept"
                : rules.wrong + " numbers of the rules are not kept");
        if (rules.wrong != 0) {
            System.exit(1);
        }
    }

    private void check(boolean holds, String fault) {
        if (!holds) {
            wrong++;
            System.out.println(fault);
        }
    }

    private void read() throws IOException {
        JavaCompiler compiler = ToolProvider.getSystemJavaCompiler();
        try (StandardJavaFileManager files = compiler.getStandardFileManager(null, null, null)) {
            JavacTask task = (JavacTask) compiler.getTask(null, files, null, null, null,
                    files.getJavaFileObjects(SOURCE));
            Iterable<? extends CompilationUnitTree> units = task.parse();
            task.analyze();
            for (CompilationUnitTree unit : units) {
                new Reader(Trees.instance(task), unit).scan(unit, null);
            }
        }
    }

    private final class Reader extends TreePathScanner<Void, Void> {
        private final Trees trees;
        private final CompilationUnitTree unit;
        private Element caller;

        Reader(Trees trees, CompilationUnitTree unit) {
            this.trees = trees;
            this.unit = unit;
        }

        /** What a field's initialiser calls is noted as the class's: each constructor calls it. */
        @Override
        public Void visitClass(ClassTree type, Void unused) {
            Element outer = caller;
            caller = trees.getElement(getCurrentPath());
            calls.put(caller, new LinkedHashSet<>());
            classes.add((TypeElement) caller);
            super.visitClass(type, unused);
            caller = outer;
            return null;
        }

        @Override
        public Void visitMethod(MethodTree method, Void unused) {
            Element outer = caller;
            caller = trees.getElement(getCurrentPath());
            calls.put(caller, new LinkedHashSet<>());
            LineMap lines = unit.getLineMap();
            long start = lines.getLineNumber(trees.getSourcePositions().getStartPosition(unit, method));
            long end = lines.getLineNumber(trees.getSourcePositions().getEndPosition(unit, method));
            check(end - start < MOST_LINES, name(caller) + " has " + (end - start + 1) + " lines");
            check(method.getParameters().size() <= MOST_PARAMETERS,
                    name(caller) + " has too many parameters");
            super.visitMethod(method, unused);
            caller = outer;
            return null;
        }

        @Override
        public Void visitMethodInvocation(MethodInvocationTree call, Void unused) {
            note(trees.getElement(new TreePath(getCurrentPath(), call.getMethodSelect())));
            return super.visitMethodInvocation(call, unused);
        }

        @Override
        public Void visitNewClass(NewClassTree made, Void unused) {
            note(trees.getElement(getCurrentPath()));
            return super.visitNewClass(made, unused);
        }

        private void note(Element called) {
            if (caller != null && called != null) {
                calls.get(caller).add(called);
            }
        }
    }

    private void countDepth() {
        for (Element method : calls.keySet()) {
            if (!classes.contains(method) && method.getModifiers().contains(Modifier.PUBLIC)) {
                List<Element> chain = longest(method, new ArrayList<>());
                check(chain.size() <= MOST_DEPTH,
                        "calls go " + chain.size() + " deep: " + names(chain));
            }
        }
    }

    /** The longest chain of calls, the library's too; a method that calls itself counts once. */
    private List<Element> longest(Element method, List<Element> open) {
        List<Element> best = new ArrayList<>();
        open.add(method);
        Set<Element> all = new LinkedHashSet<>(calls.getOrDefault(method, Set.of()));
        if (method.getKind() == ElementKind.CONSTRUCTOR) {
            all.addAll(calls.getOrDefault(method.getEnclosingElement(), Set.of()));
        }
        for (Element called : all) {
            boolean itself = called.equals(method);
            check(itself || !open.contains(called), "recursion over others: " + name(called));
            check(!itself || method.getModifiers().containsAll(Set.of(Modifier.PRIVATE,
                    Modifier.STATIC)), "recursion is private and static: " + name(method));
            if (!open.contains(called)) {
                List<Element> chain = longest(called, open);
                best = chain.size() > best.size() ? chain : best;
            }
        }
        open.remove(open.size() - 1);
        best.add(0, method);
        return best;
    }

    private void countClassesAndFields() {
        check(classes.size() <= MOST_CLASSES, "there are " + classes.size() + " classes");
        for (TypeElement type : classes) {
            int fields = 0;
            for (Element member : type.getEnclosedElements()) {
                boolean constant = member.getModifiers().contains(Modifier.STATIC);
                fields += member.getKind() == ElementKind.FIELD && !constant ? 1 : 0;
            }
            check(fields <= MOST_FIELDS, type + " has " + fields + " fields");
        }
    }

    private static String name(Element method) {
        return method.getEnclosingElement().getSimpleName() + "." + method;
    }

    private static String names(List<Element> chain) {
        StringBuilder names = new StringBuilder();
        for (Element method : chain) {
            names.append(names.length() > 0 ? " > " : "").append(name(method));
        }
        return names.toString();
    }
}
