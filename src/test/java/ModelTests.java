import java.lang.reflect.InvocationTargetException;
import java.lang.reflect.Method;
import java.util.HashMap;
import java.util.Map;
import java.util.NoSuchElementException;
import java.util.Random;

/** Random machines, texts and calls: the class answers as the model does, in every call. */
public final class ModelTests {
    private static final Map<String, Method> FACE = new HashMap<>();

    private final Random random;
    private TriedLines object;
    private Model model;
    private StringBuilder story;
    private boolean differs;

    private ModelTests(long seed) {
        random = new Random(seed);
    }

    public static void main(String[] args) {
        for (Method m : TriedLines.class.getDeclaredMethods()) {
            FACE.put(m.getName(), m);
        }
        int runs = args.length > 0 ? Integer.parseInt(args[0]) : 1500;
        for (int run = 0; run < runs; run++) {
            ModelTests t = new ModelTests(run);
            t.runOnce(run);
        }
        Check.end("ModelTests");
    }

    private int upTo(int n) {
        return random.nextInt(n);
    }

    private long call(String name, int... p) {
        Object[] boxed = new Object[p.length];
        for (int i = 0; i < p.length; i++) {
            boxed[i] = p[i];
        }
        long got;
        try {
            Object answer = FACE.get(name).invoke(object, boxed);
            got = answer instanceof Boolean ? (Boolean) answer ? 1 : 0 : ((Integer) answer).longValue();
        } catch (InvocationTargetException e) {
            got = e.getCause() instanceof NoSuchElementException ? Check.THROWN : Long.MAX_VALUE;
        } catch (IllegalAccessException e) {
            throw new IllegalStateException(e);
        }
        long want = model.call(name, p);
        story.append(name).append(java.util.Arrays.toString(p)).append(" = ").append(got).append('\n');
        if (got != want && !differs) {
            differs = true;
            System.out.println(story.substring(Math.max(0, story.length() - 3000)) + "due is " + want);
        }
        Check.due(name, got, want);
        return got;
    }

    private void runOnce(int run) {
        object = new TriedLines();
        model = new Model();
        story = new StringBuilder("run " + run + "\n");
        if (run % 4 == 3) {
            for (int i = 0; i < 12; i++) {
                tell(mutated(machineText()));
                look();
            }
            return;
        }
        if (upTo(20) == 0) {
            look();
        }
        tell(machineText());
        for (int i = 0; i < 90; i++) {
            act();
            if (upTo(3) == 0) {
                look();
            }
            if (upTo(100) == 0) {
                tell(upTo(2) == 0 ? machineText() : mutated(machineText()));
            }
        }
        serialWhileUnlocked();
    }

    /** What the document's rules amount to: while no core has the LOCK, THE WORDS are the SERIAL ones. */
    private void serialWhileUnlocked() {
        if (model.text != null && model.now.holder() < 0) {
            Check.due("agrees() without a LOCK", object.agrees(), 1);
        }
    }

    private void tell(String text) {
        story.append("'").append(text).append("'\n");
        String padded = text + " ".repeat((20 - text.length() % 20) % 20);
        for (int i = 0; i < padded.length(); i += 20) {
            int[] p = new int[5];
            for (int k = 0; k < 20; k++) {
                p[k / 4] = p[k / 4] << 8 | padded.charAt(i + k);
            }
            call("feed", p);
        }
        int slip = upTo(30) == 0 ? upTo(5) - 2 : 0;
        call("machine", text.length() + slip);
        call("fault");
        call("where");
        call("trouble");
    }

    private String machineText() {
        int words = 1 << upTo(3);
        int ways = upTo(3) == 0 ? 1 + upTo(2) : 1 + upTo(4);
        StringBuilder s = new StringBuilder("machine sets " + (1 << upTo(3)) + " ways " + ways + " words " + words
            + " rule " + new String[] {"wins", "age", "yields"}[upTo(3)] + " tries " + (1 + upTo(upTo(2) == 0 ? 3 : 9)));
        int range = Math.min(16 * words, 2 + upTo(3 * words + 4));
        for (int a = 0; a < range && a < 12; a++) {
            if (upTo(3) == 0) {
                s.append(";word ").append(a).append(' ').append(upTo(2) == 0 ? upTo(8) : upTo(1000));
            }
        }
        int cores = 1 + upTo(4);
        int most = Math.min(22, 100 / cores);
        for (int c = 0; c < cores; c++) {
            s.append(";core");
            int deeds = upTo(most);
            boolean open = false;
            for (int i = 0; i < deeds; i++) {
                open = deed(s, open, range);
            }
            if (open) {
                s.append(";end");
            }
        }
        return s.length() > 880 ? machineText() : s.toString();
    }

    private boolean deed(StringBuilder s, boolean open, int range) {
        int kind = upTo(12);
        if (kind == 0) {
            s.append(";mark");
        } else if (kind == 1) {
            s.append(upTo(2) == 0 ? ";plus " : ";less ").append(upTo(3) == 0 ? upTo(1000) : upTo(20));
        } else if (!open) {
            s.append(";begin");
            return true;
        } else if (kind == 2) {
            s.append(";end");
            return false;
        } else {
            s.append(upTo(2) == 0 ? ";get " : ";put ").append(upTo(range)).append(upTo(4) == 0 ? " x" : "");
        }
        return open;
    }

    private String mutated(String text) {
        StringBuilder s = new StringBuilder(text);
        String[] bits = {";", " ", "x", "begin", ";begin", ";end", ";core", ";word 0 1", "9", "999", "1000", ";get 3",
            ";put 64", "machine", ";mark", "A", "wins", ";plus 5", ";less", "\u00e9", "letters", "lettersx", ";word 1 1;word 1 2"};
        for (int i = 0; i <= upTo(3); i++) {
            int at = upTo(s.length() + 1);
            if (upTo(2) == 0) {
                s.insert(at, bits[upTo(bits.length)]);
            } else if (upTo(3) == 0) {
                s.setLength(at);
            } else {
                s.delete(at, Math.min(s.length(), at + 1 + upTo(6)));
            }
        }
        if (upTo(8) == 0) {
            for (int i = 0; i < 14; i++) {
                s.append(";word ").append(i).append(" 3");
            }
        }
        if (upTo(8) == 0) {
            for (int i = 0; i < 25; i++) {
                s.append(upTo(6) == 0 ? ";begin" : ";mark");
            }
        }
        s.setLength(Math.min(s.length(), 900));
        return s.toString();
    }

    private int near(int n) {
        return upTo(12) == 0 ? new int[] {-1, n, n + 1, Integer.MIN_VALUE, Integer.MAX_VALUE}[upTo(5)] : upTo(Math.max(1, n));
    }

    private int aCore() {
        return near(model.text == null ? 1 : model.text.cores.size());
    }

    private int aSeed() {
        return upTo(20) == 0 ? new int[] {-1, 65535, 65536}[upTo(3)] : upTo(65536);
    }

    private void act() {
        int kind = upTo(40);
        if (kind < 28) {
            int c = aCore();
            if (upTo(2) == 0) {
                call("would", c);
                call("wouldEnd", c);
            }
            call("step", c);
        } else if (kind < 31) {
            call("interrupt", aCore());
        } else if (kind < 33) {
            call("rounds", upTo(6) == 0 ? new int[] {0, 200, 201, -5}[upTo(4)] : 1 + upTo(3));
        } else if (kind < 35) {
            call("draws", upTo(6) == 0 ? new int[] {0, 1000, 1001, -5}[upTo(4)] : 1 + upTo(12), aSeed());
        } else if (kind < 37) {
            call("keep");
        } else if (kind < 39) {
            call("back");
        } else {
            whatIf();
        }
        call("trouble");
    }

    private void whatIf() {
        int addresses = model.text == null ? 1 : model.text.addresses();
        call("tried", near(3), upTo(9) == 0 ? 10 * upTo(2) : 1 + upTo(9), aSeed(), near(6));
        call("trouble");
        call("triedWord", near(3), 1 + upTo(9), aSeed(), near(addresses));
        call("trouble");
        call("best", aSeed());
        call("waysFor", aCore());
        call("alone", aCore(), near(addresses));
    }

    private void look() {
        int addresses = model.text == null ? 1 : model.text.addresses();
        for (int what = -1; what < 10; what++) {
            call("about", what);
            call("size", what);
            call("traffic", what);
        }
        for (int a = -1; a <= addresses; a += 1 + upTo(3)) {
            call("word", a);
            call("memory", a);
            call("serial", a);
            call("cached", aCore(), a);
        }
        for (int line = -1; line <= 17; line++) {
            call("sharers", line);
        }
        call("agrees");
        call("lock");
        for (int c = -1; c < 5; c++) {
            call("reads", c);
            call("writes", c);
            call("done", c);
            lookAtCore(c);
            call("trouble");
        }
        call("fault");
        call("where");
    }

    private void lookAtCore(int c) {
        for (int what = -1; what < 8; what++) {
            call("core", c, what);
            call("count", c, what);
            call("advice", c, what);
            call("commit", near(model.text == null ? 1 : model.now.commits.size()), what);
            call("deed", c, near(24), what);
        }
        for (int set = -1; set < 5; set++) {
            for (int way = -1; way < 5; way++) {
                call("place", c, set, way, near(5));
                call("place", c, set, way, 0);
            }
        }
    }
}
