import com.sun.source.tree.BinaryTree;
import com.sun.source.tree.ClassTree;
import com.sun.source.tree.CompilationUnitTree;
import com.sun.source.tree.LineMap;
import com.sun.source.tree.MethodInvocationTree;
import com.sun.source.tree.MethodTree;
import com.sun.source.tree.NewClassTree;
import com.sun.source.tree.Tree;
import com.sun.source.tree.VariableTree;
import com.sun.source.util.JavacTask;
import com.sun.source.util.TreePathScanner;
import com.sun.source.util.Trees;
import java.io.File;
import java.util.ArrayList;
import java.util.EnumSet;
import java.util.HashMap;
import java.util.LinkedHashSet;
import java.util.List;
import java.util.Map;
import java.util.Set;
import javax.lang.model.element.Element;
import javax.lang.model.element.ElementKind;
import javax.lang.model.element.Modifier;
import javax.tools.JavaCompiler;
import javax.tools.StandardJavaFileManager;
import javax.tools.ToolProvider;

/** Holds the class against what of ../shared/LANGUAGE.md can be read off its source. */
public final class LanguageTest extends TreePathScanner<Void, Void> {
    private static final Set<Tree.Kind> FORBIDDEN = EnumSet.of(Tree.Kind.THROW, Tree.Kind.TRY, Tree.Kind.CATCH,
        Tree.Kind.SYNCHRONIZED, Tree.Kind.ASSERT, Tree.Kind.LAMBDA_EXPRESSION, Tree.Kind.MEMBER_REFERENCE,
        Tree.Kind.INSTANCE_OF, Tree.Kind.IMPORT, Tree.Kind.PACKAGE, Tree.Kind.FLOAT_LITERAL, Tree.Kind.DOUBLE_LITERAL,
        Tree.Kind.BINDING_PATTERN, Tree.Kind.ANNOTATION, Tree.Kind.SWITCH_EXPRESSION);
    private static final Set<String> LIBRARY = Set.of("java.lang.String.length()", "java.lang.String.charAt(int)",
        "java.lang.Math.min(int,int)", "java.lang.System.arraycopy(java.lang.Object,int,java.lang.Object,int,int)",
        "java.lang.Object.Object()");
    private static final Set<String> FACE = Set.of("world", "work", "poly", "module", "map", "feed", "end", "text", "fault", "told",
        "of", "act", "acts", "send", "noughts", "about", "parts", "great", "leads", "dual", "made", "ends", "alike", "classes",
        "greatest", "sums", "symbol", "factors", "undo", "redo", "image", "back", "count");

    private final Trees trees;
    private final CompilationUnitTree unit;
    private final Map<String, Set<String>> calls = new HashMap<>();
    private final Set<String> faces = new LinkedHashSet<>();
    private String caller = "";
    private int classes = 0;

    private LanguageTest(Trees trees, CompilationUnitTree unit) {
        this.trees = trees;
        this.unit = unit;
    }

    public static void main(String[] args) throws Exception {
        JavaCompiler compiler = ToolProvider.getSystemJavaCompiler();
        StandardJavaFileManager files = compiler.getStandardFileManager(null, null, null);
        File source = new File("src/main/java/PowersForTimes.java");
        JavacTask task = (JavacTask) compiler.getTask(null, files, null, null, null, files.getJavaFileObjects(source));
        CompilationUnitTree unit = task.parse().iterator().next();
        task.analyze();
        LanguageTest test = new LanguageTest(Trees.instance(task), unit);
        test.scan(unit, null);
        test.depth();
        Due.holds("the face is the document's: " + test.faces, test.faces.equals(FACE));
        Due.holds(test.classes + " classes, some 12 at most,", test.classes <= 12);
        Due.finish();
    }

    @Override
    public Void scan(Tree tree, Void v) {
        if (tree != null) {
            Due.holds("rules 2, 3, 6: no " + tree.getKind(), !FORBIDDEN.contains(tree.getKind()));
        }
        return super.scan(tree, v);
    }

    @Override
    public Void visitClass(ClassTree tree, Void v) {
        classes++;
        Set<Modifier> flags = tree.getModifiers().getFlags();
        boolean outer = getCurrentPath().getParentPath().getLeaf() == unit;
        String name = tree.getSimpleName().toString();
        Due.holds(name + " is final", flags.contains(Modifier.FINAL));
        Due.holds(name + " is public or static", flags.contains(outer ? Modifier.PUBLIC : Modifier.STATIC));
        int fields = 0;
        for (Tree member : tree.getMembers()) {
            if (member instanceof VariableTree field) {
                Set<Modifier> how = field.getModifiers().getFlags();
                boolean constant = how.contains(Modifier.STATIC);
                fields += constant ? 0 : 1;
                Due.holds(field.getName() + ": a static field is final", !constant || how.contains(Modifier.FINAL));
                if (outer) {
                    boolean is = how.contains(Modifier.PUBLIC) == field.getName().contentEquals("NONE");
                    Due.holds(field.getName() + ": NONE alone is public", is && (how.contains(Modifier.PRIVATE) || constant));
                }
            } else if (member instanceof MethodTree method && outer) {
                Set<Modifier> how = method.getModifiers().getFlags();
                boolean made = method.getName().contentEquals("<init>");
                Due.holds(method.getName() + ": public or private", how.contains(Modifier.PUBLIC) != how.contains(Modifier.PRIVATE));
                if (how.contains(Modifier.PUBLIC) && !made) {
                    faces.add(method.getName().toString());
                }
            }
        }
        Due.holds(name + " has " + fields + " fields, some 20 at most,", fields <= 20);
        return super.visitClass(tree, v);
    }

    @Override
    public Void visitMethod(MethodTree tree, Void v) {
        Element element = trees.getElement(getCurrentPath());
        caller = name(element);
        calls.put(caller, new LinkedHashSet<>());
        LineMap lines = unit.getLineMap();
        long start = trees.getSourcePositions().getStartPosition(unit, tree);
        long end = trees.getSourcePositions().getEndPosition(unit, tree);
        if (end > 0) {
            long many = lines.getLineNumber(end) - lines.getLineNumber(start) + 1;
            Due.holds(caller + " has " + many + " lines, 60 at most,", many <= 60);
        }
        Due.holds(caller + " has 7 parameters at most", tree.getParameters().size() <= 7);
        boolean open = element.getModifiers().contains(Modifier.PUBLIC);
        Due.holds(caller + " bears no public name", open || !FACE.contains(tree.getName().toString()));
        return super.visitMethod(tree, v);
    }

    @Override
    public Void visitMethodInvocation(MethodInvocationTree tree, Void v) {
        called(trees.getElement(getCurrentPath()));
        return super.visitMethodInvocation(tree, v);
    }

    @Override
    public Void visitNewClass(NewClassTree tree, Void v) {
        Due.holds("no class without a name", tree.getClassBody() == null);
        called(trees.getElement(getCurrentPath()));
        return super.visitNewClass(tree, v);
    }

    @Override
    public Void visitBinary(BinaryTree tree, Void v) {
        if (tree.getKind() == Tree.Kind.PLUS) {
            String type = trees.getTypeMirror(getCurrentPath()).toString();
            Due.holds("rule 10: no texts joined by +", !type.contains("String"));
        }
        return super.visitBinary(tree, v);
    }

    private static String name(Element e) {
        return e.getEnclosingElement() + "." + e;
    }

    private void called(Element e) {
        Due.holds("a call has its element", e != null);
        if (e == null) {
            return;
        }
        String owner = e.getEnclosingElement().toString();
        if (owner.startsWith("PowersForTimes")) {
            calls.computeIfAbsent(caller, k -> new LinkedHashSet<>()).add(name(e));
        } else if (e.getKind() == ElementKind.METHOD || e.getKind() == ElementKind.CONSTRUCTOR) {
            String call = owner + "." + e;
            Due.holds("rule 4: no " + call, LIBRARY.contains(call));
        }
    }

    /** Calls that are no recursion go eight deep at most. */
    private void depth() {
        for (String start : calls.keySet()) {
            List<String> way = longest(start, new ArrayList<>());
            Due.holds("rule 11: " + way.size() + " deep: " + way, way.size() <= 8);
        }
    }

    private List<String> longest(String from, List<String> open) {
        List<String> best = new ArrayList<>();
        open.add(from);
        for (String to : calls.getOrDefault(from, Set.of())) {
            if (!open.contains(to)) {
                List<String> way = longest(to, open);
                if (way.size() > best.size()) {
                    best = way;
                }
            }
        }
        open.remove(open.size() - 1);
        boolean turns = from.matches(".*Reader\\.read(Product|Power|One)\\(.*");
        if (!turns) {
            best.add(0, from);
        }
        return best;
    }
}
