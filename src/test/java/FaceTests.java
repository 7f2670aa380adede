import java.io.IOException;
import java.lang.management.ManagementFactory;
import java.lang.reflect.Constructor;
import java.lang.reflect.Field;
import java.lang.reflect.Method;
import java.lang.reflect.Modifier;
import java.nio.charset.StandardCharsets;
import java.nio.file.Files;
import java.nio.file.Path;
import java.util.Set;
import java.util.TreeSet;
import java.util.regex.Matcher;
import java.util.regex.Pattern;

/** The public face as the document prints it, what of LANGUAGE.md can be looked up, and the room. */
public final class FaceTests {
    private static final Path SOURCE = Path.of("src/main/java/TriedLines.java");
    private static final Path DOCUMENT = Path.of("../shared/DOC.md");

    public static void main(String[] args) throws IOException {
        String source = Files.readString(SOURCE, StandardCharsets.UTF_8);
        face();
        names();
        language(source);
        room();
        Check.end("FaceTests");
    }

    /** Each line of the face in the document, told as reflection tells it. */
    private static void face() throws IOException {
        Set<String> due = new TreeSet<>();
        String document = Files.readString(DOCUMENT, StandardCharsets.UTF_8);
        Matcher m = Pattern.compile("    public (int|boolean) (\\w+)\\(([^)]*)\\)").matcher(document);
        while (m.find()) {
            String parameters = m.group(3).replaceAll(" \\w+(,|$)", "$1");
            due.add(m.group(1) + " " + m.group(2) + "(" + parameters + ")");
        }
        Set<String> got = new TreeSet<>();
        for (Method method : TriedLines.class.getDeclaredMethods()) {
            if (!Modifier.isPrivate(method.getModifiers())) {
                String parameters = java.util.Arrays.toString(method.getParameterTypes()).replaceAll("[\\[\\]]", "");
                got.add(method.getReturnType() + " " + method.getName() + "(" + parameters + ")");
                Check.due(method.getName() + " is public", Modifier.isPublic(method.getModifiers()), true);
                Class<?>[] thrown = method.getExceptionTypes();
                boolean throwsIt = thrown.length == 1 && thrown[0] == java.util.NoSuchElementException.class;
                Check.due(method.getName() + " throws", thrown.length, method.getName().equals("done") ? 1 : 0);
                Check.due(method.getName() + " throws it", throwsIt, method.getName().equals("done"));
            }
        }
        Check.due("calls in the document", due.size(), 37);
        Check.due("the face " + got, got.equals(due), true);
        for (Field field : TriedLines.class.getDeclaredFields()) {
            boolean isNone = field.getName().equals("NONE");
            Check.due(field.getName() + " is private", Modifier.isPrivate(field.getModifiers()), !isNone);
            Check.due(field.getName() + " is final if static",
                !Modifier.isStatic(field.getModifiers()) || Modifier.isFinal(field.getModifiers()), true);
        }
        Constructor<?>[] constructors = TriedLines.class.getDeclaredConstructors();
        Check.due("constructors", constructors.length, 1);
        Check.due("public constructor", Modifier.isPublic(constructors[0].getModifiers()), true);
        Check.due("final class", Modifier.isFinal(TriedLines.class.getModifiers()), true);
    }

    private static void names() {
        Set<String> face = new TreeSet<>();
        for (Method method : TriedLines.class.getDeclaredMethods()) {
            if (Modifier.isPublic(method.getModifiers())) {
                face.add(method.getName());
            }
        }
        for (Class<?> inside : TriedLines.class.getDeclaredClasses()) {
            Check.due(inside + " is static", Modifier.isStatic(inside.getModifiers()), true);
            for (Method method : inside.getDeclaredMethods()) {
                Check.due(inside + " " + method.getName() + " is no name of the face", face.contains(method.getName()), false);
            }
        }
    }

    private static void language(String source) {
        String[] unwanted = {"->", "::", "catch", "finally", "synchronized", "assert ", "instanceof", "static \\{",
            "\" \\+", "\\+ \"", "Exact\\(", "throw new (?!NoSuchElementException\\(\\))", "\\bpackage\\b", "\\bvar\\b",
            "new (?!int\\[|boolean\\[|Plan\\(|TextReader\\(|Cache[\\[(]|Core[\\[(]|Run\\(|Solo\\(|NoSuchElementException\\()",
            "import (?!java\\.util\\.NoSuchElementException;)", "System\\.(?!arraycopy\\()", "Math\\.(?!max|min|floorMod)"};
        for (String pattern : unwanted) {
            Matcher m = Pattern.compile(pattern).matcher(source.replaceAll("(?m)//.*$|/\\*\\*.*?\\*/", ""));
            Check.due("'" + pattern + "' stands in the source", m.find(), false);
        }
        Check.due("signs 1 to 127 alone", source.chars().allMatch(c -> c > 0 && c < 128), true);
    }

    /** 512 of the dearest calls make no object; a hundred objects stay far below the room. */
    private static void room() {
        String text = "machine sets 4 ways 4 words 4 rule age tries 9;core;begin;get 0;put 9;end;core;begin;get 9;put 0;end"
            + ";core;begin;get 0;put 3;end;core;begin;get 3;put 9;end";
        com.sun.management.ThreadMXBean bean = (com.sun.management.ThreadMXBean) ManagementFactory.getThreadMXBean();
        long self = Thread.currentThread().getId();
        TriedLines t = Check.told(text);
        use(t);
        long before = bean.getThreadAllocatedBytes(self);
        for (int i = 0; i < 50; i++) {
            use(t);
        }
        long used = bean.getThreadAllocatedBytes(self) - before;
        Check.due("bytes allocated by some 500 calls: " + used, used < 10000, true);
        before = bean.getThreadAllocatedBytes(self);
        for (int i = 0; i < 100; i++) {
            new TriedLines();
        }
        used = bean.getThreadAllocatedBytes(self) - before;
        Check.due("bytes of a hundred objects: " + used, used < 100 * 7_300_000L * 4 / 100, true);
    }

    private static void use(TriedLines t) {
        t.draws(5, 3);
        t.tried(1, 9, 7, 0);
        t.best(9);
        t.would(0);
        t.wouldEnd(1);
        t.keep();
        t.back();
        t.agrees();
        t.alone(2, 0);
        t.waysFor(3);
    }
}
