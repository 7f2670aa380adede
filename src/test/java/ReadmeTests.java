import java.io.ByteArrayOutputStream;
import java.io.PrintStream;
import java.nio.charset.StandardCharsets;
import java.nio.file.Path;
import java.util.Map;

/** The example in README.md compiles, and prints what stands under it. */
public final class ReadmeTests {
    private static final String README = Compiled.text(Path.of("README.md"));

    public static void main(String[] args) {
        String example = block("java", 0);
        String due = block("text", README.indexOf("```java"));
        Map<String, String> sources = Map.of("Example", example, "TriedLines", Compiled.source());
        Compiled.use("the example", sources, classes -> prints(classes.loadClass("Example"), due));
        calls();
        Check.end("ReadmeTests");
    }

    private static String block(String kind, int from) {
        String start = "```" + kind + "\n";
        int at = README.indexOf(start, from);
        Check.due("a block of " + kind, at >= 0, true);
        return at < 0 ? "" : README.substring(at + start.length(), README.indexOf("```", at + start.length()));
    }

    private static void prints(Class<?> example, String due) throws ReflectiveOperationException {
        PrintStream out = System.out;
        ByteArrayOutputStream got = new ByteArrayOutputStream();
        System.setOut(new PrintStream(got, true, StandardCharsets.UTF_8));
        try {
            example.getMethod("main", String[].class).invoke(null, (Object) new String[0]);
        } finally {
            System.setOut(out);
        }
        Check.due("what the example prints", got.toString(StandardCharsets.UTF_8).replace("\r", ""), due);
    }

    /** Each call of the face is told in the text. */
    private static void calls() {
        String text = README.substring(0, README.indexOf("## An example"));
        for (java.lang.reflect.Method method : TriedLines.class.getMethods()) {
            if (method.getDeclaringClass() == TriedLines.class) {
                Check.due("the README tells " + method.getName(), text.contains("`" + method.getName() + "("), true);
            }
        }
    }
}
