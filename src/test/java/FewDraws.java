import java.io.IOException;
import java.net.URL;
import java.net.URLClassLoader;
import java.nio.charset.StandardCharsets;
import java.nio.file.Files;
import java.nio.file.Path;
import java.util.Comparator;
import java.util.List;
import java.util.stream.Collectors;
import java.util.stream.Stream;
import javax.tools.ToolProvider;

/**
 * No MACHINE is known with which by no RULE all is done in 2,000 draws. So what if is looked at in a copy
 * of the class, too, that differs in one constant: it has 12 draws at most.
 */
final class FewDraws {
    private static final Path SOURCE = Path.of("src/main/java/TriedLines.java");
    private static final String MANY = "TRIED_DRAWS = 2000;";
    private static final String FEW = "TRIED_DRAWS = 12;";

    private FewDraws() {
    }

    /** What best() answers in the copy. */
    static void best() {
        try {
            String source = Files.readString(SOURCE, StandardCharsets.UTF_8);
            Check.due("the bound stands once in the class", source.split(MANY, -1).length, 2);
            Path folder = Files.createTempDirectory("few");
            try {
                Path copy = folder.resolve("TriedLines.java");
                Files.writeString(copy, source.replace(MANY, FEW), StandardCharsets.UTF_8);
                String[] options = {"-d", folder.toString(), copy.toString()};
                Check.due("compiling the copy", ToolProvider.getSystemJavaCompiler().run(null, null, null, options), 0);
                URL[] classes = {folder.toUri().toURL()};
                try (URLClassLoader loader = new URLClassLoader(classes, ClassLoader.getPlatformClassLoader())) {
                    look(loader.loadClass("TriedLines"));
                }
            } finally {
                remove(folder);
            }
        } catch (IOException | ReflectiveOperationException e) {
            Check.due("a copy of the class (" + e + ")", 0, 1);
        }
    }

    private static void remove(Path folder) throws IOException {
        try (Stream<Path> all = Files.walk(folder)) {
            List<Path> deepestFirst = all.sorted(Comparator.reverseOrder()).collect(Collectors.toList());
            for (Path each : deepestFirst) {
                Files.delete(each);
            }
        }
    }

    private static void look(Class<?> copy) throws ReflectiveOperationException {
        String head = Look.head(1, 4, 1, "wins", 2);
        Object twelve = told(copy, head + ";core" + ";mark".repeat(12));
        Check.due("best(0) of 12 DEEDS", call(twelve, "best", 0), 0);
        Check.due("trouble()", call(twelve, "trouble"), 0);
        Check.due("tried() of 12 DEEDS", call(twelve, "tried", 0, 1, 0, 0), 12);
        Object thirteen = told(copy, head + ";core" + ";mark".repeat(13));
        Check.due("best(0) of 13 DEEDS", call(thirteen, "best", 0), -2);
        Check.due("trouble()", call(thirteen, "trouble"), 0);
        for (int what = 0; what < 6; what++) {
            Check.due("tried() of 13 DEEDS", call(thirteen, "tried", 0, 1, 0, what), -2);
        }
        // from SEED 20 by two cores 0 0 0 0 1 1 0 .. with 10 STEPS by age, 11 by yields, 13 by wins
        Object some = told(copy, head + ";core;begin;get 0;get 0;put 1;end;core;begin;put 0;put 0;end");
        boolean[] isDone = new boolean[3];
        for (int rule = 0; rule < 3; rule++) {
            isDone[rule] = call(some, "tried", rule, 2, 20, 0) != -2;
        }
        Check.due("not by all RULES", isDone[0], false);
        Check.due("best(20)", call(some, "best", 20), isDone[1] ? 1 : isDone[2] ? 2 : -2);
    }

    private static Object told(Class<?> copy, String text) throws ReflectiveOperationException {
        Object object = copy.getDeclaredConstructor().newInstance();
        for (int i = 0; i < text.length(); i += 20) {
            int[] numbers = new int[5];
            for (int k = 0; k < 20; k++) {
                numbers[k / 4] = numbers[k / 4] << 8 | (i + k < text.length() ? text.charAt(i + k) : ' ');
            }
            call(object, "feed", numbers);
        }
        Check.due("machine()", call(object, "machine", text.length()) > 0, true);
        return object;
    }

    private static int call(Object object, String name, int... numbers) throws ReflectiveOperationException {
        Class<?>[] types = new Class<?>[numbers.length];
        Object[] boxed = new Object[numbers.length];
        for (int i = 0; i < numbers.length; i++) {
            types[i] = int.class;
            boxed[i] = numbers[i];
        }
        return (Integer) object.getClass().getMethod(name, types).invoke(object, boxed);
    }
}
