import com.sun.source.tree.ClassTree;
import com.sun.source.tree.CompilationUnitTree;
import com.sun.source.tree.InstanceOfTree;
import com.sun.source.tree.LambdaExpressionTree;
import com.sun.source.tree.MemberReferenceTree;
import com.sun.source.tree.MethodInvocationTree;
import com.sun.source.tree.MethodTree;
import com.sun.source.tree.NewArrayTree;
import com.sun.source.tree.NewClassTree;
import com.sun.source.tree.Tree;
import com.sun.source.tree.TypeCastTree;
import com.sun.source.tree.VariableTree;
import com.sun.source.util.JavacTask;
import com.sun.source.util.TreePath;
import com.sun.source.util.TreePathScanner;
import com.sun.source.util.Trees;
import java.nio.file.Files;
import java.nio.file.Path;
import java.util.ArrayList;
import java.util.LinkedHashMap;
import java.util.LinkedHashSet;
import java.util.List;
import java.util.Map;
import java.util.Set;
import java.util.TreeSet;
import javax.lang.model.element.Element;
import javax.lang.model.element.ElementKind;
import javax.lang.model.element.Modifier;
import javax.tools.JavaCompiler;
import javax.tools.StandardJavaFileManager;
import javax.tools.ToolProvider;

/** The rules of LANGUAGE.md that a search for words can't see, read from the class as javac understands it. */
public final class RuleTests {
    /** Of rule 4, what this class uses; whatever else it comes to use must be looked up there first. */
    private static final Set<String> LIBRARY = Set.of("java.lang.String.length", "java.lang.String.charAt",
        "java.lang.Integer.bitCount", "java.lang.Integer.numberOfTrailingZeros", "java.lang.Math.max", "java.lang.Math.min",
        "java.lang.Math.abs", "java.lang.Math.floorMod", "java.lang.System.arraycopy", "java.util.Arrays.fill");
    private static final Set<String> RECURSIVE = Set.of("Packer.findsSeat", "Packer.oneMovesOn");
    private static final int DEEPEST = 8;
    private static final int MOST_LINES = 60;

    private static int passed;
    private static int failed;

    private final Map<String, Set<String>> calls = new LinkedHashMap<>();
    private final Set<String> library = new TreeSet<>();

    private RuleTests() {
    }

    public static void main(String[] args) throws Exception {
        Path source = Path.of(args.length > 0 ? args[0] : ".", "src/main/java/BenchColony.java");
        new RuleTests().read(source);
        System.out.println(passed + " passed, " + failed + " failed");
        if (failed > 0) {
            System.exit(1);
        }
    }

    private static void check(String what, boolean good) {
        if (good) {
            passed++;
        } else {
            failed++;
            System.out.println("not so: " + what);
        }
    }

    private void read(Path source) throws Exception {
        JavaCompiler compiler = ToolProvider.getSystemJavaCompiler();
        Path out = Files.createTempDirectory("rules");
        try (StandardJavaFileManager files = compiler.getStandardFileManager(null, null, null)) {
            JavacTask task = (JavacTask) compiler.getTask(null, files, null, List.of("-proc:none", "-d", out.toString()),
                null, files.getJavaFileObjects(source));
            List<CompilationUnitTree> units = new ArrayList<>();
            task.parse().forEach(units::add);
            task.analyze();
            for (CompilationUnitTree unit : units) {
                new Reader(Trees.instance(task), unit).scan(unit, null);
            }
        }
        Files.delete(out);
        check("rule 4, the library: " + library, LIBRARY.containsAll(library));
        check("the class was read: " + calls.size() + " methods", calls.size() > 51);
        for (String method : calls.keySet()) {
            List<String> chain = deepest(method, new LinkedHashSet<>());
            check("rule 11, at most eight deep: " + chain, chain.size() <= DEEPEST);
            check("rule 8, calls itself: " + method, RECURSIVE.contains(method) == reaches(method, method));
        }
    }

    /** The longest chain of calls from a method on, without those by which recursion goes on. */
    private List<String> deepest(String method, Set<String> open) {
        List<String> longest = List.of();
        open.add(method);
        for (String next : calls.getOrDefault(method, Set.of())) {
            boolean goesOn = RECURSIVE.contains(method) && RECURSIVE.contains(next);
            if (!goesOn && !open.contains(next)) {
                List<String> chain = deepest(next, open);
                longest = chain.size() > longest.size() ? chain : longest;
            }
        }
        open.remove(method);
        List<String> whole = new ArrayList<>(List.of(method));
        whole.addAll(longest);
        return whole;
    }

    private boolean reaches(String from, String to) {
        Set<String> seen = new LinkedHashSet<>();
        List<String> open = new ArrayList<>(calls.getOrDefault(from, Set.of()));
        while (!open.isEmpty()) {
            String next = open.remove(0);
            if (seen.add(next)) {
                open.addAll(calls.getOrDefault(next, Set.of()));
            }
        }
        return seen.contains(to);
    }

    /** Looks at each part of the source, and keeps who calls whom. */
    private final class Reader extends TreePathScanner<Void, Void> {
        private final Trees trees;
        private final CompilationUnitTree unit;

        Reader(Trees trees, CompilationUnitTree unit) {
            this.trees = trees;
            this.unit = unit;
        }

        private String here() {
            return "line " + unit.getLineMap().getLineNumber(
                trees.getSourcePositions().getStartPosition(unit, getCurrentPath().getLeaf()));
        }

        private MethodTree method() {
            for (TreePath path = getCurrentPath(); path != null; path = path.getParentPath()) {
                if (path.getLeaf() instanceof MethodTree method) {
                    return method;
                }
            }
            return null;
        }

        private static String nameOf(Element method) {
            return method.getEnclosingElement().getSimpleName() + "." + method.getSimpleName();
        }

        @Override
        public Void visitMethod(MethodTree method, Void none) {
            long first = unit.getLineMap().getLineNumber(trees.getSourcePositions().getStartPosition(unit, method));
            long last = unit.getLineMap().getLineNumber(trees.getSourcePositions().getEndPosition(unit, method));
            String name = nameOf(trees.getElement(getCurrentPath()));
            check("rule 11, " + name + " is short", last - first < MOST_LINES);
            check("rule 11, " + name + " takes at most seven", method.getParameters().size() <= 7);
            check(name + " bears a name of its own in its class", calls.put(name, new LinkedHashSet<>()) == null
                || name.endsWith(".<init>"));
            return super.visitMethod(method, none);
        }

        @Override
        public Void visitMethodInvocation(MethodInvocationTree call, Void none) {
            Element called = trees.getElement(getCurrentPath());
            String owner = called.getEnclosingElement().toString();
            if (owner.startsWith("BenchColony")) {
                if (method() != null) {
                    calls.get(nameOf(trees.getElement(trees.getPath(unit, method())))).add(nameOf(called));
                }
            } else if (called.getKind() != ElementKind.CONSTRUCTOR) {
                library.add(owner + "." + called.getSimpleName());
            }
            return super.visitMethodInvocation(call, none);
        }

        /** What is made once with the object can't add up over the calls. */
        private void madeHere(String what) {
            MethodTree method = method();
            check(here() + " makes " + what + " in a method", method == null || method.getName().contentEquals("<init>")
                || what.equals("NoSuchElementException"));
        }

        @Override
        public Void visitNewClass(NewClassTree made, Void none) {
            madeHere(made.getIdentifier().toString());
            return super.visitNewClass(made, none);
        }

        @Override
        public Void visitNewArray(NewArrayTree made, Void none) {
            madeHere("an array");
            return super.visitNewArray(made, none);
        }

        @Override
        public Void visitVariable(VariableTree variable, Void none) {
            Element element = trees.getElement(getCurrentPath());
            check(here() + " has static state", element.getKind() != ElementKind.FIELD
                || !element.getModifiers().contains(Modifier.STATIC) || element.getModifiers().contains(Modifier.FINAL));
            return super.visitVariable(variable, none);
        }

        @Override
        public Void visitClass(ClassTree inside, Void none) {
            Element element = trees.getElement(getCurrentPath());
            check(here() + ": rule 1, a class inside is private and static", element.getSimpleName()
                .contentEquals("BenchColony") || element.getModifiers().containsAll(Set.of(Modifier.PRIVATE, Modifier.STATIC)));
            check(here() + ": rule 2, a class with a name", !inside.getSimpleName().isEmpty());
            return super.visitClass(inside, none);
        }

        /** The one cast is to a byte; a cast of an object would want a test ahead of it. */
        @Override
        public Void visitTypeCast(TypeCastTree cast, Void none) {
            check(here() + ": a cast to " + cast.getType(), cast.getType().getKind() == Tree.Kind.PRIMITIVE_TYPE);
            return super.visitTypeCast(cast, none);
        }

        @Override
        public Void visitInstanceOf(InstanceOfTree test, Void none) {
            check(here() + ": instanceof", false);
            return super.visitInstanceOf(test, none);
        }

        @Override
        public Void visitLambdaExpression(LambdaExpressionTree lambda, Void none) {
            check(here() + ": rule 2, a lambda", false);
            return super.visitLambdaExpression(lambda, none);
        }

        @Override
        public Void visitMemberReference(MemberReferenceTree reference, Void none) {
            check(here() + ": rule 2, a method reference", false);
            return super.visitMemberReference(reference, none);
        }
    }
}
