/** Looks at several answers of an object at once. */
final class Look {
    private Look() {
    }

    static String head(int sets, int ways, int words, String rule, int tries) {
        return "machine sets " + sets + " ways " + ways + " words " + words + " rule " + rule + " tries " + tries;
    }

    static void core(TriedLines t, int c, int... due) {
        for (int what = 0; what < due.length; what++) {
            Check.due("core(" + c + ", " + what + ")", t.core(c, what), due[what]);
        }
    }

    static void count(TriedLines t, int c, int... due) {
        for (int what = 0; what < due.length; what++) {
            Check.due("count(" + c + ", " + what + ")", t.count(c, what), due[what]);
        }
    }

    static void place(TriedLines t, int c, int set, int way, int... due) {
        for (int what = 0; what < due.length; what++) {
            Check.due("place(" + c + ", " + set + ", " + way + ", " + what + ")", t.place(c, set, way, what), due[what]);
        }
    }

    static void traffic(TriedLines t, int... due) {
        for (int what = 0; what < due.length; what++) {
            Check.due("traffic(" + what + ")", t.traffic(what), due[what]);
        }
    }

    static void commit(TriedLines t, int i, int... due) {
        for (int what = 0; what < due.length; what++) {
            Check.due("commit(" + i + ", " + what + ")", t.commit(i, what), due[what]);
        }
    }

    static void would(TriedLines t, int c, int outcome, int ends) {
        Check.due("would(" + c + ")", t.would(c), outcome);
        Check.due("wouldEnd(" + c + ")", t.wouldEnd(c), ends);
    }

    /** All that a small MACHINE has, but TIME and how often a core WAITED. */
    static String state(TriedLines t) {
        StringBuilder s = new StringBuilder("commits " + t.about(8) + " lock " + t.lock());
        int sets = t.about(0);
        int ways = t.about(1);
        for (int c = 0; c < t.about(5); c++) {
            s.append("\ncore ").append(c);
            for (int what = 0; what < 6; what++) {
                s.append(' ').append(t.core(c, what)).append('/').append(t.count(c, what));
            }
            for (int i = 0; i < sets * ways * 5; i++) {
                s.append(' ').append(t.place(c, i / 5 / ways, i / 5 % ways, i % 5));
            }
        }
        for (int what = 0; what < 3; what++) {
            s.append(" traffic ").append(t.traffic(what));
        }
        for (int a = 0; a < 3; a++) {
            s.append(" word ").append(t.word(a)).append(' ').append(t.memory(a));
        }
        return s.toString();
    }
}
