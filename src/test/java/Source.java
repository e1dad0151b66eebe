import com.sun.source.tree.CompilationUnitTree;
import com.sun.source.tree.MethodInvocationTree;
import com.sun.source.tree.MethodTree;
import com.sun.source.tree.Tree;
import com.sun.source.tree.VariableTree;
import com.sun.source.util.JavacTask;
import com.sun.source.util.TreePath;
import com.sun.source.util.TreePathScanner;
import com.sun.source.util.Trees;
import java.io.IOException;
import java.util.ArrayList;
import java.util.List;
import javax.lang.model.element.Element;
import javax.lang.model.type.TypeKind;
import javax.lang.model.type.TypeMirror;
import javax.tools.JavaCompiler;
import javax.tools.StandardJavaFileManager;
import javax.tools.ToolProvider;

/** A source file as the compiler reads it: every piece of it, what each name means, and each expression's type. */
final class Source {
    final CompilationUnitTree unit;
    private final Trees trees;
    private final List<TreePath> pieces = new ArrayList<>();

    Source(String path) throws IOException {
        JavaCompiler compiler = ToolProvider.getSystemJavaCompiler();
        try (StandardJavaFileManager files = compiler.getStandardFileManager(null, null, null)) {
            JavacTask task = (JavacTask) compiler.getTask(null, files, null, List.of("--release", "17"), null,
                    files.getJavaFileObjects(path));
            unit = task.parse().iterator().next();
            task.analyze();
            trees = Trees.instance(task);
        }
        new TreePathScanner<Void, Void>() {
            @Override
            public Void scan(Tree tree, Void nothing) {
                if (tree != null && isWritten(tree)) {
                    pieces.add(new TreePath(getCurrentPath(), tree));
                    return super.scan(tree, nothing);
                }
                return null;
            }
        }.scan(new TreePath(unit), null);
    }

    /** The compiler adds pieces of its own, such as the call of super() in a constructor: these have no end. */
    private boolean isWritten(Tree tree) {
        boolean canBeEmpty = tree.getKind() == Tree.Kind.MODIFIERS;
        return canBeEmpty || trees.getSourcePositions().getEndPosition(unit, tree) >= 0;
    }

    List<TreePath> all() {
        return pieces;
    }

    List<TreePath> of(Tree.Kind... kinds) {
        List<Tree.Kind> wanted = List.of(kinds);
        return pieces.stream().filter(piece -> wanted.contains(piece.getLeaf().getKind())).toList();
    }

    /** The pieces of these kinds that stand inside another piece. */
    List<TreePath> inside(Tree outer, Tree.Kind... kinds) {
        return of(kinds).stream().filter(piece -> piece.getLeaf() != outer && isInside(piece, outer)).toList();
    }

    static boolean isInside(TreePath piece, Tree outer) {
        for (Tree above : piece) {
            if (above == outer) {
                return true;
            }
        }
        return false;
    }

    List<TreePath> fields() {
        return of(Tree.Kind.VARIABLE).stream().filter(Source::isField).toList();
    }

    static boolean isField(TreePath piece) {
        return piece.getLeaf() instanceof VariableTree && piece.getParentPath().getLeaf().getKind() == Tree.Kind.CLASS;
    }

    List<MethodTree> methods() {
        return of(Tree.Kind.METHOD).stream().map(piece -> (MethodTree) piece.getLeaf()).toList();
    }

    Element meaning(TreePath piece) {
        return trees.getElement(piece);
    }

    Element meaningOf(Tree tree) {
        return meaning(TreePath.getPath(unit, tree));
    }

    Element called(TreePath call) {
        return meaningOf(((MethodInvocationTree) call.getLeaf()).getMethodSelect());
    }

    TypeMirror type(Tree tree) {
        return trees.getTypeMirror(TreePath.getPath(unit, tree));
    }

    boolean isArray(Tree tree) {
        TypeMirror type = type(tree);
        return type != null && type.getKind() == TypeKind.ARRAY;
    }

    long firstLine(Tree tree) {
        return unit.getLineMap().getLineNumber(trees.getSourcePositions().getStartPosition(unit, tree));
    }

    long lastLine(Tree tree) {
        return unit.getLineMap().getLineNumber(trees.getSourcePositions().getEndPosition(unit, tree));
    }

    String at(Tree tree) {
        return "line " + firstLine(tree) + ": " + tree.toString().strip().lines().findFirst().orElse("");
    }
}
