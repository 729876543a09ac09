import com.sun.source.tree.AssertTree;
import com.sun.source.tree.BlockTree;
import com.sun.source.tree.ClassTree;
import com.sun.source.tree.CompilationUnitTree;
import com.sun.source.tree.ImportTree;
import com.sun.source.tree.LambdaExpressionTree;
import com.sun.source.tree.MemberReferenceTree;
import com.sun.source.tree.MethodInvocationTree;
import com.sun.source.tree.MethodTree;
import com.sun.source.tree.NewArrayTree;
import com.sun.source.tree.NewClassTree;
import com.sun.source.tree.SynchronizedTree;
import com.sun.source.tree.ThrowTree;
import com.sun.source.tree.Tree;
import com.sun.source.tree.TryTree;
import com.sun.source.tree.VariableTree;
import com.sun.source.util.JavacTask;
import com.sun.source.util.TreePathScanner;
import com.sun.source.util.Trees;
import java.io.File;
import java.io.IOException;
import java.util.HashSet;
import java.util.List;
import java.util.Map;
import java.util.Set;
import java.util.TreeMap;
import java.util.TreeSet;
import javax.lang.model.element.Element;
import javax.lang.model.element.ElementKind;
import javax.lang.model.element.Modifier;
import javax.lang.model.element.TypeElement;
import javax.tools.JavaCompiler;
import javax.tools.StandardJavaFileManager;
import javax.tools.ToolProvider;

/** ../shared/LANGUAGE.md, as far as the compiler's own tree of the program can tell; FaceTest holds rule 1. */
public final class LanguageTest extends TreePathScanner<Void, Void> {
    private static final String PROGRAM = "src/main/java/MixingRelays.java";
    private static final int MOST_DEEP = 8, MOST_LINES = 60, MOST_PARAMETERS = 7, MOST_CLASSES = 12, MOST_FIELDS = 20;
    /** The part of rule 4 that the program uses; a call besides must be looked up there first. */
    private static final Set<String> LIBRARY = Set.of("java.util.Arrays.fill", "java.lang.System.arraycopy",
            "java.lang.Math.min", "java.lang.Integer.bitCount", "java.lang.Object.<init>");

    private final Trees trees;
    private final CompilationUnitTree unit;
    private final Map<String, Set<String>> calls = new TreeMap<>();
    private String method = null;
    private boolean inConstructor = false;
    private int classes = 0;

    private LanguageTest(Trees trees, CompilationUnitTree unit) {
        this.trees = trees;
        this.unit = unit;
    }

    public static void main(String[] args) throws IOException {
        JavaCompiler compiler = ToolProvider.getSystemJavaCompiler();
        StandardJavaFileManager files = compiler.getStandardFileManager(null, null, null);
        JavacTask task = (JavacTask) compiler.getTask(null, files, null, List.of("-proc:none"), null,
                files.getJavaFileObjects(new File(PROGRAM)));
        CompilationUnitTree unit = task.parse().iterator().next();
        task.analyze();
        LanguageTest test = new LanguageTest(Trees.instance(task), unit);
        test.scan(unit, null);
        Check.holds("no package", unit.getPackage() == null);
        Check.due("classes of the file", unit.getTypeDecls().size(), 1);
        Check.holds("few classes", test.classes <= MOST_CLASSES);
        test.depths();
        Check.finish();
    }

    /** Rules 8 and 11: no method comes back to itself, and calls go at most eight deep, the first one counted. */
    private void depths() {
        Check.holds("calls were seen", calls.size() > 31);
        for (String start : calls.keySet()) {
            int depth = depth(start, new HashSet<>());
            Check.holds(start + " goes " + depth + " deep", depth <= MOST_DEEP);
        }
    }

    private int depth(String from, Set<String> open) {
        if (!open.add(from)) {
            Check.holds(from + " does not come back to itself", false);
            return MOST_DEEP + 1;
        }
        int below = 0;
        for (String called : calls.getOrDefault(from, Set.of())) {
            below = Math.max(below, depth(called, open));
        }
        open.remove(from);
        return below + 1;
    }

    private void refused(String what, Tree tree) {
        Check.holds("line " + lineAt(trees.getSourcePositions().getStartPosition(unit, tree)) + ": no " + what, false);
    }

    private long lineAt(long position) {
        return unit.getLineMap().getLineNumber(position);
    }

    private void called(Element element) {
        String owner = ((TypeElement) element.getEnclosingElement()).getQualifiedName().toString();
        if (owner.startsWith("MixingRelays")) {
            if (method != null) {
                calls.get(method).add(owner + "." + element);
            }
        } else {
            String name = owner + "." + element.getSimpleName();
            Check.holds(name + " is in the library", LIBRARY.contains(name));
        }
    }

    @Override
    public Void visitImport(ImportTree tree, Void none) {
        String name = tree.getQualifiedIdentifier().toString();
        Check.holds("import " + name, name.equals("java.util.Arrays"));
        return super.visitImport(tree, none);
    }

    /** Rules 2, 5 and 11. */
    @Override
    public Void visitClass(ClassTree tree, Void none) {
        classes++;
        Element element = trees.getElement(getCurrentPath());
        boolean outermost = element.getEnclosingElement().getKind() == ElementKind.PACKAGE;
        Check.holds(element + " stands in a class", outermost || element.getEnclosingElement().getKind().isClass());
        Check.holds(element + " is static", outermost || element.getModifiers().contains(Modifier.STATIC));
        int fields = 0;
        for (Tree member : tree.getMembers()) {
            if (member instanceof BlockTree) {
                refused("block in a class", member);
            }
            if (member instanceof VariableTree field) {
                Set<Modifier> told = field.getModifiers().getFlags();
                Check.holds(field.getName() + " is final if static",
                        !told.contains(Modifier.STATIC) || told.contains(Modifier.FINAL));
                fields += told.contains(Modifier.STATIC) ? 0 : 1;
            }
        }
        Check.holds(element + " has few fields", fields <= MOST_FIELDS);
        return super.visitClass(tree, none);
    }

    /** Rule 11. */
    @Override
    public Void visitMethod(MethodTree tree, Void none) {
        Element element = trees.getElement(getCurrentPath());
        method = element.getEnclosingElement() + "." + element;
        inConstructor = element.getKind() == ElementKind.CONSTRUCTOR;
        calls.put(method, new TreeSet<>());
        Check.holds(method + " takes few parameters", tree.getParameters().size() <= MOST_PARAMETERS);
        long first = lineAt(trees.getSourcePositions().getStartPosition(unit, tree));
        long last = trees.getSourcePositions().getEndPosition(unit, tree);
        Check.holds(method + " is short", last < 0 || lineAt(last) - first < MOST_LINES);
        super.visitMethod(tree, none);
        method = null;
        return null;
    }

    @Override
    public Void visitMethodInvocation(MethodInvocationTree tree, Void none) {
        called(trees.getElement(getCurrentPath()));
        return super.visitMethodInvocation(tree, none);
    }

    /** Objects are made with the object itself, so that no run of calls can fill the room. */
    @Override
    public Void visitNewClass(NewClassTree tree, Void none) {
        if (tree.getClassBody() != null) {
            refused("anonymous class", tree);
        }
        if (method != null && !inConstructor) {
            refused("object made in a call", tree);
        }
        called(trees.getElement(getCurrentPath()));
        return super.visitNewClass(tree, none);
    }

    @Override
    public Void visitNewArray(NewArrayTree tree, Void none) {
        if (method != null && !inConstructor) {
            refused("array made in a call", tree);
        }
        return super.visitNewArray(tree, none);
    }

    @Override
    public Void visitLambdaExpression(LambdaExpressionTree tree, Void none) {
        refused("lambda", tree);
        return null;
    }

    @Override
    public Void visitMemberReference(MemberReferenceTree tree, Void none) {
        refused("method reference", tree);
        return null;
    }

    @Override
    public Void visitThrow(ThrowTree tree, Void none) {
        refused("throw", tree);
        return null;
    }

    @Override
    public Void visitTry(TryTree tree, Void none) {
        refused("try", tree);
        return null;
    }

    @Override
    public Void visitSynchronized(SynchronizedTree tree, Void none) {
        refused("synchronized", tree);
        return null;
    }

    @Override
    public Void visitAssert(AssertTree tree, Void none) {
        refused("assert", tree);
        return null;
    }
}
