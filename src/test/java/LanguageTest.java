import com.sun.source.tree.CompilationUnitTree;
import com.sun.source.util.JavacTask;
import com.sun.source.util.Trees;
import java.io.IOException;
import java.nio.file.Files;
import java.nio.file.Path;
import java.util.List;
import javax.tools.JavaCompiler;
import javax.tools.JavaFileObject;
import javax.tools.StandardJavaFileManager;
import javax.tools.ToolProvider;

/** What of ../shared/LANGUAGE.md can be told by a look at the program; what its calls do tell the other tests. */
public final class LanguageTest {
    private static final Path SOURCE = Path.of("src", "main", "java", "OddPartners.java");

    public static void main(String[] args) throws IOException {
        JavaCompiler compiler = ToolProvider.getSystemJavaCompiler();
        try (StandardJavaFileManager files = compiler.getStandardFileManager(null, null, null)) {
            Iterable<? extends JavaFileObject> source = files.getJavaFileObjects(SOURCE);
            JavacTask task = (JavacTask) compiler.getTask(null, files, null, List.of("-proc:none"), null, source);
            CompilationUnitTree unit = task.parse().iterator().next();
            task.analyze();
            LanguageRules rules = new LanguageRules(Trees.instance(task), unit);
            for (byte sign : Files.readAllBytes(SOURCE)) {
                rules.due(sign > 0, 4, "a sign outside 1 to 127", unit);
            }
            rules.look();
            System.out.println(rules.summary());
            if (rules.wrong() > 0) {
                System.exit(1);
            }
        }
    }
}
