import com.sun.source.tree.*;
import com.sun.source.util.JavacTask;
import com.sun.source.util.TreePathScanner;
import com.sun.source.util.Trees;
import java.nio.file.Path;
import java.util.ArrayDeque;
import java.util.ArrayList;
import java.util.Deque;
import java.util.List;
import java.util.Map;
import java.util.Set;
import java.util.TreeMap;
import java.util.TreeSet;
import javax.lang.model.element.Element;
import javax.lang.model.element.ExecutableElement;
import javax.lang.model.element.TypeElement;
import javax.tools.JavaCompiler;
import javax.tools.StandardJavaFileManager;
import javax.tools.ToolProvider;

/** Those rules of LANGUAGE.md that need the compiler's own eyes: who calls whom, what is made and where. */
public final class CallsTest {
    private static final int DEEPEST = 8;
    /** The methods that call themselves or one another, and the parameter that keeps each of them low. */
    private static final Map<String, String> RECURSIVE = Map.of(
            "Reader.joined", "open", "Reader.part", "open", "Reader.ask", "open", "Reader.one", "open",
            "Walk.goOn", "length", "Keeper.clean", "day");
    private static final Set<String> LIBRARY = Set.of("System.arraycopy", "Arrays.fill", "Math.abs", "Math.min",
            "Math.max", "String.length", "String.charAt", "String.indexOf", "Object.<init>");
    private static int wrong = 0;

    public static void main(String[] args) throws Exception {
        JavaCompiler compiler = ToolProvider.getSystemJavaCompiler();
        try (StandardJavaFileManager files = compiler.getStandardFileManager(null, null, null)) {
            JavacTask task = (JavacTask) compiler.getTask(null, files, null, List.of("-proc:none"), null,
                    files.getJavaFileObjects(Path.of("src/main/java/StatuesWhoOwe.java")));
            Iterable<? extends CompilationUnitTree> units = task.parse();
            task.analyze();
            Looker looker = new Looker(Trees.instance(task));
            for (CompilationUnitTree unit : units) {
                looker.scan(unit, null);
            }
            rule(11, "more than seventy methods are looked at: " + looker.calls.size(), looker.calls.size() > 70);
            recursion(looker);
            depth(looker.calls);
        }
        System.out.println(wrong == 0 ? "the rules of calls are kept" : wrong + " rules are not kept");
        if (wrong != 0) {
            System.exit(1);
        }
    }

    private static void rule(int number, String what, boolean kept) {
        if (!kept) {
            wrong++;
            System.out.println("rule " + number + ": " + what);
        }
    }

    private static Set<String> reached(Map<String, Set<String>> calls, String from) {
        Set<String> all = new TreeSet<>();
        Deque<String> waiting = new ArrayDeque<>(calls.get(from));
        while (!waiting.isEmpty()) {
            String next = waiting.pop();
            if (all.add(next)) {
                waiting.addAll(calls.get(next));
            }
        }
        return all;
    }

    private static void recursion(Looker looker) {
        for (String method : looker.calls.keySet()) {
            boolean again = reached(looker.calls, method).contains(method);
            rule(8, method + " calls itself", !again || RECURSIVE.containsKey(method));
            rule(8, method + " carries no depth", !again || looker.parameters.get(method).contains(RECURSIVE.get(method)));
        }
    }

    /** Methods that call one another count as one, since these calls are the recursion. */
    private static void depth(Map<String, Set<String>> calls) {
        for (String method : calls.keySet()) {
            List<String> chain = longest(calls, method);
            rule(11, "calls go deep: " + chain, chain.size() <= DEEPEST);
        }
    }

    private static List<String> longest(Map<String, Set<String>> calls, String from) {
        Set<String> group = new TreeSet<>(Set.of(from));
        for (String other : reached(calls, from)) {
            if (reached(calls, other).contains(from)) {
                group.add(other);
            }
        }
        List<String> best = List.of();
        for (String member : group) {
            for (String next : calls.get(member)) {
                if (!group.contains(next)) {
                    List<String> chain = longest(calls, next);
                    best = chain.size() > best.size() ? chain : best;
                }
            }
        }
        List<String> all = new ArrayList<>(List.of(String.join("/", group)));
        all.addAll(best);
        return all;
    }

    private static final class Looker extends TreePathScanner<Void, Void> {
        final Map<String, Set<String>> calls = new TreeMap<>();
        final Map<String, List<String>> parameters = new TreeMap<>();
        private final Trees trees;
        private String method = "fields";
        private boolean makes = true;

        Looker(Trees trees) {
            this.trees = trees;
            calls.put(method, new TreeSet<>());
            parameters.put(method, List.of());
        }

        private static String nameOf(Element method) {
            return method.getEnclosingElement().getSimpleName() + "." + method.getSimpleName();
        }

        private boolean isOwn(Element element) {
            return element != null && element.getEnclosingElement() instanceof TypeElement type
                    && type.getQualifiedName().toString().startsWith("StatuesWhoOwe");
        }

        @Override
        public Void visitMethod(MethodTree tree, Void nothing) {
            ExecutableElement element = (ExecutableElement) trees.getElement(getCurrentPath());
            String outer = method;
            boolean outerMakes = makes;
            method = nameOf(element);
            makes = tree.getReturnType() == null;
            calls.computeIfAbsent(method, key -> new TreeSet<>());
            parameters.put(method, tree.getParameters().stream().map(p -> p.getName().toString()).toList());
            super.visitMethod(tree, nothing);
            method = outer;
            makes = outerMakes;
            return null;
        }

        private void called(Element element) {
            if (isOwn(element)) {
                calls.get(method).add(nameOf(element));
                calls.computeIfAbsent(nameOf(element), key -> new TreeSet<>());
                parameters.putIfAbsent(nameOf(element), List.of());
            } else {
                rule(4, method + " calls " + element, element != null && LIBRARY.contains(nameOf(element)));
            }
        }

        @Override
        public Void visitMethodInvocation(MethodInvocationTree tree, Void nothing) {
            called(trees.getElement(getCurrentPath()));
            return super.visitMethodInvocation(tree, nothing);
        }

        @Override
        public Void visitNewClass(NewClassTree tree, Void nothing) {
            rule(12, method + " makes " + tree, makes);
            rule(2, "a class without a name: " + tree, tree.getClassBody() == null);
            called(trees.getElement(getCurrentPath()));
            return super.visitNewClass(tree, nothing);
        }

        @Override
        public Void visitNewArray(NewArrayTree tree, Void nothing) {
            rule(12, method + " makes " + tree, makes);
            return super.visitNewArray(tree, nothing);
        }

        @Override
        public Void visitTypeCast(TypeCastTree tree, Void nothing) {
            rule(6, "a cast: " + tree, tree.getType() instanceof PrimitiveTypeTree);
            return super.visitTypeCast(tree, nothing);
        }

        @Override
        public Void visitLambdaExpression(LambdaExpressionTree tree, Void nothing) {
            rule(2, "a lambda: " + tree, false);
            return null;
        }

        @Override
        public Void visitMemberReference(MemberReferenceTree tree, Void nothing) {
            rule(2, "a method reference: " + tree, false);
            return null;
        }

        @Override
        public Void visitThrow(ThrowTree tree, Void nothing) {
            rule(6, "a throw: " + tree, false);
            return null;
        }

        @Override
        public Void visitTry(TryTree tree, Void nothing) {
            rule(6, "a try: " + tree, false);
            return null;
        }
    }
}
