import com.sun.source.tree.ClassTree;
import com.sun.source.tree.CompilationUnitTree;
import com.sun.source.tree.MethodTree;
import com.sun.source.tree.Tree;
import com.sun.source.tree.VariableTree;
import com.sun.source.util.JavacTask;
import com.sun.source.util.TreePath;
import com.sun.source.util.Trees;
import java.io.IOException;
import java.io.UncheckedIOException;
import java.util.ArrayList;
import java.util.List;
import java.util.stream.Collectors;
import javax.lang.model.element.Element;
import javax.lang.model.element.Modifier;
import javax.tools.JavaCompiler;
import javax.tools.StandardJavaFileManager;
import javax.tools.ToolProvider;

/** The class as the compiler reads it. */
final class SourceTree {
    final CompilationUnitTree unit;
    private final Trees trees;

    SourceTree() {
        JavaCompiler compiler = ToolProvider.getSystemJavaCompiler();
        try (StandardJavaFileManager files = compiler.getStandardFileManager(null, null, null)) {
            JavacTask task = (JavacTask) compiler.getTask(null, files, null, List.of("-proc:none"), null,
                files.getJavaFileObjects(Compiled.SOURCE));
            unit = task.parse().iterator().next();
            task.analyze();
            trees = Trees.instance(task);
        } catch (IOException e) {
            throw new UncheckedIOException(e);
        }
    }

    /** What a name or a call in the source means. */
    Element meaning(Tree tree) {
        return trees.getElement(TreePath.getPath(unit, tree));
    }

    String typeOf(Tree tree) {
        return String.valueOf(trees.getTypeMirror(TreePath.getPath(unit, tree)));
    }

    /** How many lines of the source it takes. */
    int lines(Tree tree) {
        long from = trees.getSourcePositions().getStartPosition(unit, tree);
        long to = trees.getSourcePositions().getEndPosition(unit, tree);
        return (int) (unit.getLineMap().getLineNumber(to) - unit.getLineMap().getLineNumber(from)) + 1;
    }

    ClassTree outer() {
        return (ClassTree) unit.getTypeDecls().get(0);
    }

    /** The public members in their order, as the document prints its face. */
    List<String> face() {
        List<String> face = new ArrayList<>();
        for (Tree member : outer().getMembers()) {
            if (member instanceof VariableTree field && field.getModifiers().getFlags().contains(Modifier.PUBLIC)) {
                face.add(flags(field.getModifiers().getFlags()) + field.getType() + " " + field.getName() + " = "
                    + field.getInitializer() + ";");
            }
            if (member instanceof MethodTree method && method.getModifiers().getFlags().contains(Modifier.PUBLIC)) {
                face.add(flags(method.getModifiers().getFlags()) + heading(method) + ";");
            }
        }
        return face;
    }

    static String flags(Iterable<Modifier> flags) {
        StringBuilder s = new StringBuilder();
        for (Modifier flag : flags) {
            s.append(flag).append(' ');
        }
        return s.toString();
    }

    private String heading(MethodTree method) {
        boolean isConstructor = method.getReturnType() == null;
        String name = isConstructor ? outer().getSimpleName().toString() : method.getReturnType() + " " + method.getName();
        String parameters = method.getParameters().stream().map(p -> p.getType() + " " + p.getName())
            .collect(Collectors.joining(", "));
        String thrown = method.getThrows().stream().map(Object::toString).collect(Collectors.joining(", "));
        return name + "(" + parameters + ")" + (thrown.isEmpty() ? "" : " throws " + thrown);
    }
}
