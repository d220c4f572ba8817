import com.sun.source.tree.BlockTree;
import com.sun.source.tree.ClassTree;
import com.sun.source.tree.CompilationUnitTree;
import com.sun.source.tree.MethodInvocationTree;
import com.sun.source.tree.MethodTree;
import com.sun.source.tree.NewArrayTree;
import com.sun.source.tree.NewClassTree;
import com.sun.source.tree.Tree;
import com.sun.source.tree.VariableTree;
import com.sun.source.util.JavacTask;
import com.sun.source.util.TreePath;
import com.sun.source.util.TreePathScanner;
import com.sun.source.util.Trees;
import java.io.File;
import java.util.ArrayList;
import java.util.Arrays;
import java.util.EnumSet;
import java.util.HashMap;
import java.util.LinkedHashSet;
import java.util.List;
import java.util.Map;
import java.util.Set;
import java.util.TreeSet;
import javax.lang.model.element.Element;
import javax.lang.model.element.Modifier;
import javax.tools.StandardJavaFileManager;
import javax.tools.ToolProvider;

/** The rules of LANGUAGE.md that can be counted, over the class's own source (run from the project's folder). */
public final class LanguageTest {
    private static final String SOURCE = "src/main/java/ActorTrees.java";
    private static final int MOST_CLASSES = 12, MOST_FIELDS = 20, MOST_PARAMETERS = 7, MOST_LINES = 60, MOST_DEEP = 8;
    private static final Set<String> LIBRARY = Set.of("System.arraycopy", "Math.max", "Math.min", "Integer.bitCount");
    private static final Set<String> FACE = new TreeSet<>(Arrays.asList("actor", "tell", "of", "counted", "message", "sender", "stack",
        "watcher", "timer", "stop", "run", "ended", "log", "cause", "dry", "first", "quiet", "would", "brings", "reach", "feed", "script",
        "drawn", "seed", "order", "image", "back", "hold", "row", "put", "tells", "count", "<init>"));
    private static final Set<String> CONSTANTS = new TreeSet<>(Arrays.asList("BAD", "NOT", "FULL", "STATE", "VOID"));
    private static final Set<Tree.Kind> FORBIDDEN = EnumSet.of(Tree.Kind.LAMBDA_EXPRESSION, Tree.Kind.MEMBER_REFERENCE, Tree.Kind.TRY,
        Tree.Kind.CATCH, Tree.Kind.THROW, Tree.Kind.SYNCHRONIZED, Tree.Kind.ASSERT, Tree.Kind.IMPORT, Tree.Kind.PACKAGE,
        Tree.Kind.STRING_LITERAL, Tree.Kind.TYPE_CAST, Tree.Kind.INSTANCE_OF, Tree.Kind.RECORD, Tree.Kind.ENUM, Tree.Kind.INTERFACE,
        Tree.Kind.ANNOTATION);

    private final Check check = new Check("LanguageTest");
    private final Map<Element, Set<Element>> calls = new HashMap<>();
    private final Map<Element, Integer> depths = new HashMap<>();
    private final Set<String> faceFound = new TreeSet<>();
    private final Set<String> constantsFound = new TreeSet<>();
    private CompilationUnitTree unit;
    private Trees trees;
    private int classes;

    public static void main(String[] args) throws Exception {
        new LanguageTest().look();
    }

    private void look() throws Exception {
        var compiler = ToolProvider.getSystemJavaCompiler();
        try (StandardJavaFileManager files = compiler.getStandardFileManager(null, null, null)) {
            var sources = files.getJavaFileObjects(new File(SOURCE));
            JavacTask task = (JavacTask) compiler.getTask(null, files, null, List.of("-proc:none"), null, sources);
            unit = task.parse().iterator().next();
            task.analyze();
            trees = Trees.instance(task);
            new Scan().scan(unit, null);
        }
        must("one class, at most 12 with those inside", classes >= 1 && classes <= MOST_CLASSES);
        must("the face has just the document's methods: " + faceFound, faceFound.equals(FACE));
        must("the face has just the document's constants: " + constantsFound, constantsFound.equals(CONSTANTS));
        int deepest = 0;
        for (Element method : new ArrayList<>(calls.keySet())) {
            deepest = Math.max(deepest, depth(method, new LinkedHashSet<>()));
        }
        must("calls go at most 8 deep, not " + deepest, deepest <= MOST_DEEP);
        check.end();
    }

    private void must(String rule, boolean kept) {
        check.due(rule, kept ? 1 : 0, 1);
    }

    private int depth(Element method, Set<Element> open) {
        must("no recursion at " + method + " by " + open, !open.contains(method));
        if (open.contains(method)) {
            return MOST_DEEP + 1;
        }
        Integer known = depths.get(method);
        if (known != null) {
            return known;
        }
        open.add(method);
        int deepest = 0;
        for (Element called : calls.getOrDefault(method, Set.of())) {
            deepest = Math.max(deepest, depth(called, open));
        }
        open.remove(method);
        depths.put(method, deepest + 1);
        return deepest + 1;
    }

    private final class Scan extends TreePathScanner<Void, Void> {
        @Override
        public Void scan(Tree tree, Void p) {
            if (tree != null) {
                must("no " + tree.getKind() + ": " + tree, !FORBIDDEN.contains(tree.getKind()));
            }
            return super.scan(tree, p);
        }

        private boolean isOutermost(Tree parent) {
            return parent instanceof ClassTree c && c.getSimpleName().contentEquals("ActorTrees");
        }

        @Override
        public Void visitClass(ClassTree tree, Void p) {
            classes++;
            Set<Modifier> flags = tree.getModifiers().getFlags();
            boolean outermost = getCurrentPath().getParentPath().getLeaf() == unit;
            must("class " + tree.getSimpleName() + " is static and not public", outermost || flags.contains(Modifier.STATIC)
                && !flags.contains(Modifier.PUBLIC) && !flags.contains(Modifier.PROTECTED));
            int fields = 0;
            for (Tree member : tree.getMembers()) {
                boolean isBlock = member instanceof BlockTree;
                must("no initialiser block in " + tree.getSimpleName(), !isBlock);
                fields += member instanceof VariableTree v && !v.getModifiers().getFlags().contains(Modifier.STATIC) ? 1 : 0;
            }
            must("some 20 fields in " + tree.getSimpleName() + ", not " + fields, fields <= MOST_FIELDS);
            return super.visitClass(tree, p);
        }

        @Override
        public Void visitVariable(VariableTree tree, Void p) {
            Tree parent = getCurrentPath().getParentPath().getLeaf();
            if (parent instanceof ClassTree) {
                Set<Modifier> flags = tree.getModifiers().getFlags();
                must("static " + tree.getName() + " is final", !flags.contains(Modifier.STATIC) || flags.contains(Modifier.FINAL));
                if (isOutermost(parent) && flags.contains(Modifier.PUBLIC)) {
                    constantsFound.add(tree.getName().toString());
                } else if (isOutermost(parent)) {
                    must(tree.getName() + " is private", flags.contains(Modifier.PRIVATE));
                }
            }
            return super.visitVariable(tree, p);
        }

        @Override
        public Void visitMethod(MethodTree tree, Void p) {
            String name = tree.getName().toString();
            Set<Modifier> flags = tree.getModifiers().getFlags();
            boolean outermost = isOutermost(getCurrentPath().getParentPath().getLeaf());
            if (outermost && flags.contains(Modifier.PUBLIC)) {
                faceFound.add(name);
            } else {
                must(name + " is private or inside", !outermost || flags.contains(Modifier.PRIVATE));
                must(name + " bears no name of the face", name.equals("<init>") || !FACE.contains(name));
            }
            must(name + " takes at most 7", tree.getParameters().size() <= MOST_PARAMETERS);
            long start = unit.getLineMap().getLineNumber(trees.getSourcePositions().getStartPosition(unit, tree));
            long end = unit.getLineMap().getLineNumber(trees.getSourcePositions().getEndPosition(unit, tree));
            must(name + " is short, not " + (end - start + 1), end - start + 1 <= MOST_LINES);
            calls.computeIfAbsent(trees.getElement(getCurrentPath()), k -> new LinkedHashSet<>());
            return super.visitMethod(tree, p);
        }

        /** The method round a place; null: a field's initialiser. */
        private MethodTree methodRound() {
            for (TreePath path = getCurrentPath(); path != null; path = path.getParentPath()) {
                if (path.getLeaf() instanceof MethodTree method) {
                    return method;
                }
            }
            return null;
        }

        private void note(Element called) {
            for (TreePath path = getCurrentPath(); path != null; path = path.getParentPath()) {
                if (path.getLeaf() instanceof MethodTree) {
                    calls.computeIfAbsent(trees.getElement(path), k -> new LinkedHashSet<>()).add(called);
                    return;
                }
            }
        }

        @Override
        public Void visitMethodInvocation(MethodInvocationTree tree, Void p) {
            Element called = trees.getElement(new TreePath(getCurrentPath(), tree.getMethodSelect()));
            String owner = called.getEnclosingElement().toString();
            if (owner.startsWith("ActorTrees")) {
                note(called);
            } else if (!owner.equals("java.lang.Object")) {
                must("the library's " + tree.getMethodSelect(), LIBRARY.contains(tree.getMethodSelect().toString()));
            }
            return super.visitMethodInvocation(tree, p);
        }

        @Override
        public Void visitNewClass(NewClassTree tree, Void p) {
            MethodTree method = methodRound();
            must("an object made in a constructor alone: " + tree, method == null || method.getName().contentEquals("<init>"));
            return super.visitNewClass(tree, p);
        }

        @Override
        public Void visitNewArray(NewArrayTree tree, Void p) {
            MethodTree method = methodRound();
            must("an array made in a constructor alone: " + tree, method == null || method.getName().contentEquals("<init>"));
            return super.visitNewArray(tree, p);
        }
    }
}
