import com.sun.source.tree.BinaryTree;
import com.sun.source.tree.ClassTree;
import com.sun.source.tree.CompilationUnitTree;
import com.sun.source.tree.LineMap;
import com.sun.source.tree.MethodInvocationTree;
import com.sun.source.tree.MethodTree;
import com.sun.source.tree.NewClassTree;
import com.sun.source.tree.Tree;
import com.sun.source.tree.VariableTree;
import com.sun.source.util.JavacTask;
import com.sun.source.util.TreePathScanner;
import com.sun.source.util.Trees;
import java.io.File;
import java.util.ArrayList;
import java.util.EnumSet;
import java.util.HashMap;
import java.util.LinkedHashSet;
import java.util.List;
import java.util.Map;
import java.util.Set;
import javax.lang.model.element.Element;
import javax.lang.model.element.ElementKind;
import javax.lang.model.element.Modifier;
import javax.tools.JavaCompiler;
import javax.tools.StandardJavaFileManager;
import javax.tools.ToolProvider;

/** Holds the class against what of ../shared/LANGUAGE.md can be read off its source. */
public final class LanguageTest extends TreePathScanner<Void, Void> {
    private static final Set<Tree.Kind> FORBIDDEN = EnumSet.of(Tree.Kind.THROW, Tree.Kind.TRY, Tree.Kind.CATCH,
        Tree.Kind.SYNCHRONIZED, Tree.Kind.ASSERT, Tree.Kind.LAMBDA_EXPRESSION, Tree.Kind.MEMBER_REFERENCE, Tree.Kind.PACKAGE);
    /** What rule 4 lets the program use, by the owner's name; the names of methods behind it. */
    private static final Map<String, String> LIBRARY = Map.of(
        "java.lang.Object", "Object",
        "java.lang.String", "String length charAt isEmpty equals indexOf substring toCharArray",
        "java.lang.StringBuilder", "StringBuilder append charAt setCharAt setLength deleteCharAt reverse length toString",
        "java.util.ArrayList", "ArrayList add get set remove size isEmpty clear",
        "java.util.List", "of add get set remove size isEmpty clear",
        "java.lang.Math", "max min abs floorDiv floorMod",
        "java.lang.Integer", "compare max min bitCount numberOfTrailingZeros numberOfLeadingZeros signum",
        "java.lang.Long", "compare max min bitCount numberOfTrailingZeros numberOfLeadingZeros signum",
        "java.lang.System", "arraycopy",
        "java.util.Arrays", "copyOf copyOfRange fill");
    private static final Set<String> FACE = Set.of("world", "work", "poly", "module", "map", "feed", "end", "text", "fault", "told",
        "of", "act", "acts", "send", "noughts", "about", "parts", "great", "leads", "dual", "made", "ends", "alike", "classes",
        "greatest", "sums", "symbol", "factors", "undo", "redo", "image", "back", "count");

    private final Trees trees;
    private final CompilationUnitTree unit;
    private final Map<String, Set<String>> calls = new HashMap<>();
    private final Map<String, Set<String>> reaches = new HashMap<>();
    private final Set<String> faces = new LinkedHashSet<>();
    private String caller = "";
    private int classes = 0;

    private LanguageTest(Trees trees, CompilationUnitTree unit) {
        this.trees = trees;
        this.unit = unit;
    }

    public static void main(String[] args) throws Exception {
        JavaCompiler compiler = ToolProvider.getSystemJavaCompiler();
        StandardJavaFileManager files = compiler.getStandardFileManager(null, null, null);
        File source = new File("src/main/java/PowersForTimes.java");
        JavacTask task = (JavacTask) compiler.getTask(null, files, null, null, null, files.getJavaFileObjects(source));
        CompilationUnitTree unit = task.parse().iterator().next();
        task.analyze();
        LanguageTest test = new LanguageTest(Trees.instance(task), unit);
        test.scan(unit, null);
        test.depth();
        Due.holds("the face is the document's: " + test.faces, test.faces.equals(FACE));
        Due.holds(test.classes + " classes, some 12 at most,", test.classes <= 14);
        Due.finish();
    }

    @Override
    public Void scan(Tree tree, Void v) {
        if (tree != null) {
            Due.holds("rules 2, 3, 6: no " + tree.getKind(), !FORBIDDEN.contains(tree.getKind()));
        }
        return super.scan(tree, v);
    }

    @Override
    public Void visitClass(ClassTree tree, Void v) {
        classes++;
        Set<Modifier> flags = tree.getModifiers().getFlags();
        boolean outer = getCurrentPath().getParentPath().getLeaf() == unit;
        String name = tree.getSimpleName().toString();
        Due.holds(name + " is final", flags.contains(Modifier.FINAL) || !outer);
        Due.holds(name + " is public or static", flags.contains(outer ? Modifier.PUBLIC : Modifier.STATIC));
        int fields = 0;
        for (Tree member : tree.getMembers()) {
            if (member instanceof VariableTree field) {
                Set<Modifier> how = field.getModifiers().getFlags();
                boolean constant = how.contains(Modifier.STATIC);
                fields += constant ? 0 : 1;
                Due.holds(field.getName() + ": a static field is final", !constant || how.contains(Modifier.FINAL));
                if (outer) {
                    boolean is = how.contains(Modifier.PUBLIC) == field.getName().contentEquals("NONE");
                    Due.holds(field.getName() + ": NONE alone is public", is && (how.contains(Modifier.PRIVATE) || constant));
                }
            } else if (member instanceof MethodTree method && outer) {
                Set<Modifier> how = method.getModifiers().getFlags();
                boolean made = method.getName().contentEquals("<init>");
                Due.holds(method.getName() + ": public or private", how.contains(Modifier.PUBLIC) != how.contains(Modifier.PRIVATE));
                if (how.contains(Modifier.PUBLIC) && !made) {
                    faces.add(method.getName().toString());
                }
            }
        }
        Due.holds(name + " has " + fields + " fields, some 20 at most,", fields <= 23);
        return super.visitClass(tree, v);
    }

    @Override
    public Void visitMethod(MethodTree tree, Void v) {
        Element element = trees.getElement(getCurrentPath());
        caller = name(element);
        calls.put(caller, new LinkedHashSet<>());
        LineMap lines = unit.getLineMap();
        long start = trees.getSourcePositions().getStartPosition(unit, tree);
        long end = trees.getSourcePositions().getEndPosition(unit, tree);
        if (end > 0) {
            long many = lines.getLineNumber(end) - lines.getLineNumber(start) + 1;
            Due.holds(caller + " has " + many + " lines, some 60 at most,", many <= 66);
        }
        Due.holds(caller + " has 7 parameters at most", tree.getParameters().size() <= 7);
        boolean open = element.getModifiers().contains(Modifier.PUBLIC);
        Due.holds(caller + " bears no public name", open || !FACE.contains(tree.getName().toString()));
        return super.visitMethod(tree, v);
    }

    @Override
    public Void visitMethodInvocation(MethodInvocationTree tree, Void v) {
        called(trees.getElement(getCurrentPath()));
        return super.visitMethodInvocation(tree, v);
    }

    @Override
    public Void visitNewClass(NewClassTree tree, Void v) {
        Due.holds("no class without a name", tree.getClassBody() == null);
        called(trees.getElement(getCurrentPath()));
        return super.visitNewClass(tree, v);
    }

    @Override
    public Void visitBinary(BinaryTree tree, Void v) {
        if (tree.getKind() == Tree.Kind.PLUS) {
            String type = trees.getTypeMirror(getCurrentPath()).toString();
            Due.holds("rule 10: no texts joined by +", !type.contains("String"));
        }
        return super.visitBinary(tree, v);
    }

    private static String name(Element e) {
        return e.getEnclosingElement() + "." + e;
    }

    private void called(Element e) {
        Due.holds("a call has its element", e != null);
        if (e == null) {
            return;
        }
        String owner = e.getEnclosingElement().toString();
        if (owner.startsWith("PowersForTimes")) {
            calls.computeIfAbsent(caller, k -> new LinkedHashSet<>()).add(name(e));
        } else if (e.getKind() == ElementKind.METHOD || e.getKind() == ElementKind.CONSTRUCTOR) {
            String name = e.toString().replaceAll("\\(.*", "").replaceAll("<.*>", "");
            boolean is = List.of(LIBRARY.getOrDefault(owner.replaceAll("<.*>", ""), "").split(" ")).contains(name);
            Due.holds("rule 4: " + owner + "." + e, is || name.equals("clone"));
        }
    }

    /** Calls that are no recursion go eight deep at most: methods that call one another count as one. */
    private void depth() {
        for (String start : calls.keySet()) {
            List<String> way = longest(start, new LinkedHashSet<>());
            Due.holds("rule 11: " + way.size() + " deep: " + way, way.size() <= 8);
        }
    }

    private List<String> longest(String from, Set<String> open) {
        List<String> best = new ArrayList<>();
        Set<String> turn = turnOf(from);
        open.addAll(turn);
        for (String each : turn) {
            for (String to : calls.getOrDefault(each, Set.of())) {
                if (!open.contains(to)) {
                    List<String> way = longest(to, open);
                    if (way.size() > best.size()) {
                        best = way;
                    }
                }
            }
        }
        open.removeAll(turn);
        best.add(0, from);
        return best;
    }

    /** The method, and those that it calls and that call it. */
    private Set<String> turnOf(String from) {
        Set<String> turn = new LinkedHashSet<>();
        turn.add(from);
        for (String to : reached(from)) {
            if (reached(to).contains(from)) {
                turn.add(to);
            }
        }
        return turn;
    }

    private Set<String> reached(String from) {
        return reaches.computeIfAbsent(from, k -> {
            Set<String> found = new LinkedHashSet<>();
            List<String> next = new ArrayList<>(calls.getOrDefault(from, Set.of()));
            while (!next.isEmpty()) {
                String to = next.remove(next.size() - 1);
                if (found.add(to)) {
                    next.addAll(calls.getOrDefault(to, Set.of()));
                }
            }
            return found;
        });
    }
}
