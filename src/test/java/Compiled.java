import java.io.IOException;
import java.io.UncheckedIOException;
import java.net.URL;
import java.net.URLClassLoader;
import java.nio.charset.StandardCharsets;
import java.nio.file.Files;
import java.nio.file.Path;
import java.util.ArrayList;
import java.util.Comparator;
import java.util.List;
import java.util.Map;
import java.util.stream.Collectors;
import java.util.stream.Stream;
import javax.tools.ToolProvider;

/** Sources compiled into a folder of their own, which is gone again once they have been looked at. */
final class Compiled {
    static final Path SOURCE = Path.of("src/main/java/TriedLines.java");

    /** What is done with the classes. */
    interface Use {
        void with(ClassLoader classes) throws ReflectiveOperationException;
    }

    private Compiled() {
    }

    /** The class as it stands in the project. */
    static String source() {
        return text(SOURCE);
    }

    static String text(Path file) {
        try {
            return Files.readString(file, StandardCharsets.UTF_8);
        } catch (IOException e) {
            throw new UncheckedIOException(e);
        }
    }

    /** Sources are told by the names of their classes; a failure is a check that is not as due. */
    static void use(String what, Map<String, String> sources, Use use) {
        try {
            Path folder = Files.createTempDirectory("compiled");
            try {
                Check.due("compiling " + what, compile(folder, sources), 0);
                URL[] classes = {folder.toUri().toURL()};
                try (URLClassLoader loader = new URLClassLoader(classes, ClassLoader.getPlatformClassLoader())) {
                    use.with(loader);
                }
            } finally {
                remove(folder);
            }
        } catch (IOException | ReflectiveOperationException e) {
            Check.due(what + " (" + e + ")", 0, 1);
        }
    }

    private static int compile(Path folder, Map<String, String> sources) throws IOException {
        List<String> options = new ArrayList<>(List.of("-d", folder.toString()));
        for (Map.Entry<String, String> each : sources.entrySet()) {
            Path file = folder.resolve(each.getKey() + ".java");
            Files.writeString(file, each.getValue(), StandardCharsets.UTF_8);
            options.add(file.toString());
        }
        return ToolProvider.getSystemJavaCompiler().run(null, null, null, options.toArray(new String[0]));
    }

    private static void remove(Path folder) throws IOException {
        try (Stream<Path> all = Files.walk(folder)) {
            List<Path> deepestFirst = all.sorted(Comparator.reverseOrder()).collect(Collectors.toList());
            for (Path each : deepestFirst) {
                Files.delete(each);
            }
        }
    }
}
