import com.sun.source.tree.ImportTree;
import java.lang.management.ManagementFactory;
import java.util.ArrayList;
import java.util.List;
import javax.lang.model.element.Modifier;

/** The public face, line by line as the document prints it, and the room that its calls take. */
public final class FaceTests {
    public static void main(String[] args) {
        face(new SourceTree());
        room();
        Check.end("FaceTests");
    }

    /** The lines of the document's face, but for empty ones. */
    private static List<String> lines() {
        String document = Document.text();
        String from = document.substring(document.indexOf("```java", document.indexOf("## The public face")) + 7);
        List<String> lines = new ArrayList<>();
        for (String line : from.substring(0, from.indexOf("```")).split("\n")) {
            if (!line.isBlank()) {
                lines.add(line.strip());
            }
        }
        return lines;
    }

    private static void face(SourceTree tree) {
        List<String> got = new ArrayList<>();
        for (ImportTree each : tree.unit.getImports()) {
            got.add(each.toString().strip());
        }
        got.add(SourceTree.flags(tree.outer().getModifiers().getFlags()) + "class " + tree.outer().getSimpleName() + " {");
        got.addAll(tree.face());
        got.add("}");
        List<String> due = lines();
        Check.due("lines of the face", got.size(), due.size());
        Check.due("lines of the document", due.size(), 42);
        for (int i = 0; i < due.size(); i++) {
            Check.due("line " + i, i < got.size() ? got.get(i) : "", due.get(i));
        }
        Check.due("the class is public", tree.outer().getModifiers().getFlags().contains(Modifier.PUBLIC), true);
    }

    /** 512 of the dearest calls make no object; a hundred objects stay far below the room. */
    private static void room() {
        String text = "machine sets 4 ways 4 words 4 rule age tries 9;core;begin;get 0;put 9;end;core;begin;get 9;put 0;end"
            + ";core;begin;get 0;put 3;end;core;begin;get 3;put 9;end";
        com.sun.management.ThreadMXBean bean = (com.sun.management.ThreadMXBean) ManagementFactory.getThreadMXBean();
        long self = Thread.currentThread().getId();
        TriedLines t = Check.told(text);
        use(t);
        long before = bean.getThreadAllocatedBytes(self);
        for (int i = 0; i < 50; i++) {
            use(t);
        }
        long used = bean.getThreadAllocatedBytes(self) - before;
        Check.due("bytes allocated by some 500 calls: " + used, used < 10000, true);
        before = bean.getThreadAllocatedBytes(self);
        for (int i = 0; i < 100; i++) {
            new TriedLines();
        }
        used = bean.getThreadAllocatedBytes(self) - before;
        Check.due("bytes of a hundred objects: " + used, used < 100 * 7_300_000L * 4 / 100, true);
    }

    private static void use(TriedLines t) {
        t.draws(5, 3);
        t.tried(1, 9, 7, 0);
        t.best(9);
        t.would(0);
        t.wouldEnd(1);
        t.keep();
        t.back();
        t.agrees();
        t.alone(2, 0);
        t.waysFor(3);
    }
}
