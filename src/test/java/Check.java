import java.util.NoSuchElementException;

/** Counts answers that are due, and helps to tell a text to an object. */
final class Check {
    static final long THROWN = Long.MIN_VALUE;

    private static int passed = 0;
    private static int failed = 0;
    private static String sentence = null;
    private static int sentences = 0;
    private static int ofSentence = 0;

    private Check() {
    }

    /** The checks that follow are of this sentence; each has one at least. */
    static void sentence(String words) {
        if (sentence != null && ofSentence == 0) {
            due("checks of a sentence", 0, 1);
        }
        sentence = words;
        sentences += words == null ? 0 : 1;
        ofSentence = 0;
    }

    static void due(String call, long got, long want) {
        // that the document says the sentence is no check of what the class does
        ofSentence += call.startsWith("the document says") ? 0 : 1;
        if (got == want) {
            passed++;
        } else {
            failed++;
            String of = sentence == null ? "" : "[" + sentence + "] ";
            System.out.println(of + call + " answered " + got + ", due is " + want);
        }
    }

    static void due(String call, boolean got, boolean want) {
        due(call, got ? 1 : 0, want ? 1 : 0);
    }

    static void due(String call, String got, String want) {
        due(call + ": " + got + " for " + want, got.equals(want), true);
    }

    /** A refused call: its answer, TROUBLE and where(). */
    static void refused(TriedLines t, String call, long got, int trouble) {
        due(call, got, TriedLines.NONE);
        due(call + " trouble()", t.trouble(), trouble);
        due(call + " where()", t.where(), -1);
    }

    /** Feeds a text, with blanks behind it up to twenties: the bytes on THE TAPE. */
    static int feed(TriedLines t, String text) {
        int answer = t.size(0);
        for (int i = 0; i < text.length(); i += 20) {
            answer = t.feed(four(text, i), four(text, i + 4), four(text, i + 8), four(text, i + 12), four(text, i + 16));
        }
        return answer;
    }

    private static int four(String text, int from) {
        int number = 0;
        for (int i = from; i < from + 4; i++) {
            number = number << 8 | (i < text.length() ? text.charAt(i) & 255 : ' ');
        }
        return number;
    }

    static int tell(TriedLines t, String text) {
        feed(t, text);
        return t.machine(text.length());
    }

    static TriedLines told(String text) {
        TriedLines t = new TriedLines();
        if (tell(t, text) < 0) {
            due("machine of '" + text + "' (fault " + t.fault() + " at " + t.where() + ")", -1, 1);
        }
        return t;
    }

    /** A text that is a MACHINE. */
    static TriedLines good(String text, int cores) {
        TriedLines t = new TriedLines();
        due("machine '" + text + "'", tell(t, text), cores);
        due("fault of '" + text + "'", t.fault(), 0);
        due("where of '" + text + "'", t.where(), -1);
        due("trouble of '" + text + "'", t.trouble(), 0);
        return t;
    }

    static void faulty(String text, int fault, int where) {
        TriedLines t = new TriedLines();
        due("machine '" + text + "'", tell(t, text), -1);
        due("fault of '" + text + "'", t.fault(), fault);
        due("where of '" + text + "'", t.where(), where);
        due("trouble of '" + text + "'", t.trouble(), 4);
        due("size(0) behind '" + text + "'", t.size(0), 0);
    }

    /** A text with a ^ ahead of its FAULT. */
    static void faulty(int fault, String marked) {
        int at = marked.indexOf('^');
        faulty(marked.substring(0, at) + marked.substring(at + 1), fault, at);
    }

    /** Steps of the cores told as digits; the answers as digits. */
    static void steps(TriedLines t, String cores, String answers) {
        StringBuilder got = new StringBuilder();
        for (int i = 0; i < cores.length(); i++) {
            got.append(t.step(cores.charAt(i) - '0'));
        }
        due("steps " + cores, got.toString(), answers);
    }

    static long done(TriedLines t, int i) {
        try {
            return t.done(i);
        } catch (NoSuchElementException e) {
            return THROWN;
        }
    }

    static void end(String name) {
        sentence(null);
        String of = sentences == 0 ? "" : " of " + sentences + " sentences";
        System.out.println(name + ": " + passed + " checks" + of + " as due, " + failed + " not");
        if (failed != 0) {
            System.exit(1);
        }
    }
}
