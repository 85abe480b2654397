import com.sun.source.tree.CompilationUnitTree;
import com.sun.source.tree.LineMap;
import com.sun.source.tree.Tree;
import com.sun.source.util.JavacTask;
import com.sun.source.util.SourcePositions;
import com.sun.source.util.Trees;
import java.io.IOException;
import java.nio.file.Path;
import java.util.List;
import javax.tools.JavaCompiler;
import javax.tools.StandardJavaFileManager;
import javax.tools.ToolProvider;

/** The class's source as the compiler reads it, with what every name in it stands for. */
final class Source {
    final CompilationUnitTree unit;
    final Trees trees;
    private final LineMap lines;
    private final SourcePositions places;

    Source(Path path) throws IOException {
        JavaCompiler compiler = ToolProvider.getSystemJavaCompiler();
        StandardJavaFileManager files = compiler.getStandardFileManager(null, null, null);
        JavacTask task = (JavacTask) compiler.getTask(null, files, null, List.of("-proc:none"), null,
            files.getJavaFileObjects(path));
        unit = task.parse().iterator().next();
        task.analyze();
        trees = Trees.instance(task);
        lines = unit.getLineMap();
        places = trees.getSourcePositions();
    }

    long line(Tree tree) {
        return lines.getLineNumber(places.getStartPosition(unit, tree));
    }

    long lastLine(Tree tree) {
        return lines.getLineNumber(places.getEndPosition(unit, tree));
    }
}
