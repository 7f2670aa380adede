/** Promises 24 to 38, sentence by sentence: steps, what if, what is kept, what is told. */
final class RunSentences {
    private static final int MIN = Integer.MIN_VALUE;
    private static final int MAX = Integer.MAX_VALUE;
    private static final String HEAD = Look.head(1, 1, 1, "wins", 1);
    private static final String TWO = ";core;begin;put 0;end;core;begin;plus 8;put 0;end";

    /** By yields and TRIES 9, from SEED 971 all is done with the 2,000th draw. */
    static final String DONE_IN_2000 = "machine sets 1 ways 4 words 1 rule yields tries 9"
        + ";core;begin;mark;mark;mark;mark;mark;get 1;mark;mark;end;begin;mark;put 0;end;begin;put 0;end;mark"
        + ";begin;put 1;end;begin;get 0;end"
        + ";core;begin;put 0;end;begin;mark;get 1;end;begin;get 0;end;begin;get 2;mark;mark;mark;mark;mark;mark;get 1;end"
        + ";begin;get 3;get 1;end"
        + ";core;begin;put 1;mark;get 2;put 1;mark;mark;mark;mark;put 1;mark;mark;mark;mark;get 1;mark;mark;put 1;get 1;get 1"
        + ";mark;get 3;put 0;end"
        + ";core;begin;put 0;mark;mark;mark;get 2;mark;mark;mark;get 2;mark;mark;mark;get 2;put 3;mark;mark;mark;mark;put 0"
        + ";mark;get 1;end;mark";

    /** By yields and TRIES 9, from SEED 404 a DEED is left behind 2,000 draws, and none behind 2,001. */
    static final String DONE_IN_2001 = "machine sets 1 ways 4 words 1 rule yields tries 9"
        + ";core;begin;get 3;mark;mark;mark;mark;put 3;mark;end;mark;begin;get 2;put 2;end;begin;get 0;end;begin;put 1;mark;end"
        + ";begin;put 0;end"
        + ";core;begin;put 3;end;begin;get 1;put 1;end;begin;get 0;end;begin;mark;mark;mark;get 3;get 3;mark;mark;put 2;get 0;end"
        + ";begin;put 0;end"
        + ";core;begin;get 2;get 1;get 3;get 1;mark;mark;get 3;mark;get 2;mark;get 1;mark;mark;get 3;get 2;mark;mark;mark;mark"
        + ";mark;put 2;put 0;end"
        + ";core;begin;put 0;mark;put 0;mark;get 2;mark;mark;get 2;mark;mark;mark;mark;get 3;mark;mark;mark;get 0;get 0"
        + ";mark;mark;plus 7;put 1;end";

    /** IN TURN it takes 543 rounds. */
    private static final String MANY_ROUNDS = "machine sets 1 ways 3 words 1 rule yields tries 9"
        + ";core;begin;put 0;get 2;mark;mark;mark;mark;mark;mark;mark;mark;mark;get 2;mark;mark;mark;put 0;mark;mark;put 3;end"
        + ";begin;put 3;end"
        + ";core;begin;put 3;mark;mark;put 3;mark;mark;mark;mark;mark;mark;mark;mark;mark;mark;mark;put 3;mark;mark;mark;mark"
        + ";get 0;get 2;end"
        + ";core;begin;get 2;get 2;mark;mark;put 1;get 1;mark;mark;mark;get 3;end;begin;put 0;end;begin;put 0;end;begin;put 0;end"
        + ";begin;get 0;end"
        + ";core;begin;get 3;end;begin;get 0;end;begin;put 0;end;begin;put 0;end;begin;get 3;end;begin;get 3;end;begin;get 3;end"
        + ";begin;put 3;end";

    private RunSentences() {
    }

    static void all() {
        fromTheBeginning();
        asTold();
        bySeedRuleTries();
        tillAllIsDone();
        would();
        wouldEnd();
        step();
        rounds();
        draws();
        interrupt();
        tried();
        triedWord();
        best();
        waysFor();
        keep();
        back();
        done();
        size();
        trouble();
    }

    private static String head(int sets, int ways, int words, String rule, int tries) {
        return Look.head(sets, ways, words, rule, tries);
    }

    private static void triedIs(TriedLines t, int rule, int tries, int seed, int... due) {
        for (int what = 0; what < due.length; what++) {
            String call = "tried(" + rule + ", " + tries + ", " + seed + ", " + what + ")";
            Check.due(call, t.tried(rule, tries, seed, what), due[what]);
        }
    }

    /** The SEED behind so many draws. */
    private static int seedBehind(int draws, int seed) {
        long s = seed;
        for (int i = 0; i < draws; i++) {
            s = (25173 * s + 13849) % 65536;
        }
        return (int) s;
    }

    private static void fromTheBeginning() {
        Document.says("IV", "from the beginning,");
        TriedLines t = Check.told(head(1, 1, 1, "wins", 3)
            + ";word 0 4;core;begin;get 0;plus 1;put 0;end;core;begin;get 1;end");
        int[] asTold = {t.tried(0, 3, 9, 0), t.triedWord(0, 3, 9, 0), t.best(9), t.waysFor(0)};
        Check.steps(t, "0000011", "1311122");
        for (int i = 0; i < 3; i++) {
            Check.due("tried()", t.tried(0, 3, 9, 0), asTold[0]);
            Check.due("triedWord()", t.triedWord(0, 3, 9, 0), 5);
            Check.due("best()", t.best(9), asTold[2]);
            Check.due("waysFor()", t.waysFor(0), 2);
            t.step(0);
        }
        Check.due("triedWord() at first", asTold[1], 5);
        Check.due("waysFor() at first", asTold[3], 2);
        // and nothing is done to what is there now, or kept
        t.keep();
        String before = Look.state(t);
        t.tried(2, 1, 3, 0);
        t.triedWord(2, 1, 3, 0);
        t.best(3);
        t.waysFor(1);
        Check.due("state", Look.state(t), before);
        t.back();
        Check.due("state kept", Look.state(t), before);
    }

    private static void asTold() {
        Document.says("IV", "as told,");
        // from SEED 0 by one core: SETS, WAYS, WORDS as told let the TRY END or not
        int[][] each = {{1, 1, 1, 1}, {1, 2, 1, 1}, {1, 3, 1, 0}, {2, 1, 1, 1},
            {4, 1, 1, 0}, {2, 2, 1, 0}, {1, 2, 4, 0}, {1, 1, 4, 1}};
        for (int[] e : each) {
            TriedLines t = Check.told(head(e[0], e[1], e[2], "wins", 3) + ";word 3 7;core;begin;get 2;get 3;put 3;end");
            Check.due("by CAPACITY of " + e[0] + " " + e[1] + " " + e[2], t.tried(0, 1, 0, 2), e[3]);
            Check.due("the word", t.triedWord(0, 1, 0, 3), 7);
        }
    }

    private static void bySeedRuleTries() {
        Document.says("IV", "BY A SEED, by a RULE (0 .. 2), by TRIES (1 .. 9),");
        // by two cores from SEED 20: 0 0 0 0 1 1 0 .., from SEED 1: 0 0 0 1 1 1 0 1 ..
        String longer = ";core;begin;get 0;get 0;put 1;end;core;begin;put 0;put 0;end";
        for (String rule : new String[] {"wins", "age", "yields"}) {
            TriedLines t = Check.told(head(1, 4, 1, rule, 1 + rule.length()) + longer);
            triedIs(t, 0, 2, 20, 13, 1, 0, 0, 0, 0);
            triedIs(t, 1, 2, 20, 10, 0, 0, 0, 0, 1);
            triedIs(t, 2, 2, 20, 11, 1, 0, 0, 0, 0);
            Check.due("from SEED 1", t.tried(0, 2, 1, 0), 12);
            Check.due("by TRIES 1 with the LOCK", t.tried(0, 1, 20, 4), 1);
            Check.due("by TRIES 9 without", t.tried(0, 9, 20, 4), 0);
        }
        TriedLines t = Check.told(head(1, 4, 1, "wins", 3) + longer);
        for (int tries : new int[] {0, 10, -1, MIN, MAX}) {
            Check.refused(t, "tried by TRIES " + tries, t.tried(0, tries, 1, 0), 2);
            Check.refused(t, "triedWord by TRIES " + tries, t.triedWord(0, tries, 1, 0), 2);
        }
        for (int rule : new int[] {-1, 3, MIN, MAX}) {
            Check.refused(t, "tried by RULE " + rule, t.tried(rule, 1, 1, 0), 2);
            Check.refused(t, "triedWord by RULE " + rule, t.triedWord(rule, 1, 1, 0), 2);
        }
        for (int seed : new int[] {-1, 65536, MIN, MAX}) {
            Check.refused(t, "tried from SEED " + seed, t.tried(0, 1, seed, 0), 2);
            Check.refused(t, "triedWord from SEED " + seed, t.triedWord(0, 1, seed, 0), 2);
            Check.refused(t, "best from SEED " + seed, t.best(seed), 2);
        }
        for (int tries = 1; tries <= 9; tries++) {
            Check.due("tried() by TRIES " + tries, t.tried(2, tries, 65535, 0) > 0, true);
            Check.due("triedWord() by TRIES " + tries, t.triedWord(2, tries, 0, 0), 0);
        }
    }

    private static void tillAllIsDone() {
        Document.says("IV", "till no core has DEEDS left, 2,000 draws at most.");
        TriedLines t = Check.told(DONE_IN_2000);
        triedIs(t, 2, 9, 971, 1367, 107, 1, 28, 12, 178);
        TriedLines u = Check.told(DONE_IN_2001);
        triedIs(u, 2, 9, 404, -2, -2, -2, -2, -2, -2);
        // by draws the same are done with the 2,000th draw, and with the 2,001st
        Check.due("draws", t.draws(1000, 971) + t.draws(999, seedBehind(1000, 971)), 1366);
        Check.due("a DEED is left", t.core(3, 0), 23);
        Check.due("draws", t.draws(1, seedBehind(1999, 971)), 1);
        Check.due("none is left", t.core(3, 0), -2);
        Check.due("done(3)", Check.done(t, 3), 3);
        u.draws(1000, 404);
        u.draws(1000, seedBehind(1000, 404));
        Check.due("a DEED is left", u.core(3, 0), 23);
        u.draws(1, seedBehind(2000, 404));
        Check.due("done(3)", Check.done(u, 3), 3);
        // without DEEDS nothing is drawn
        triedIs(Check.told(HEAD + ";core;core"), 0, 1, 0, 0, 0, 0, 0, 0, 0);
    }

    private static void would() {
        Document.says("24",
            "What a STEP of a core would be: 0 none (no DEED left), 1 its DEED is done, 2 it WAITS, 3 its TRY ENDS.");
        TriedLines t = Check.told(head(1, 2, 1, "age", 2) + ";core;begin;put 0;get 1;end;core;begin;get 0;end;core");
        int[][] due = {{2, 0}, {0, 1}, {1, 1}, {0, 1}, {1, 2}, {0, 3}, {1, 1}, {0, 1}, {1, 2}, {0, 1}, {0, 1}, {0, 1},
            {0, 0}, {1, 1}, {1, 1}, {1, 1}, {1, 0}};
        for (int[] each : due) {
            String before = t.about(7) + " " + t.core(each[0], 0) + " " + t.count(each[0], 6);
            for (int i = 0; i < 2; i++) {
                Check.due("would(" + each[0] + ")", t.would(each[0]), each[1]);
            }
            Check.due("behind would()", t.about(7) + " " + t.core(each[0], 0) + " " + t.count(each[0], 6), before);
            Check.due("step(" + each[0] + ")", t.step(each[0]), each[1]);
        }
        TriedLines u = Check.told(head(1, 2, 1, "wins", 2) + ";core;begin;put 0;get 1;end;core;begin;get 0;end");
        Check.steps(u, "001", "111");
        String before = Look.state(u);
        for (int c = 0; c < 2; c++) {
            u.would(c);
            u.wouldEnd(c);
        }
        Check.due("state", Look.state(u), before);
        Document.says("24", "NONE: 1.");
        refusedByCore(u, 0, 2);
    }

    private static void refusedByCore(TriedLines t, int kind, int cores) {
        TriedLines none = new TriedLines();
        for (int c : new int[] {-1, cores, 4, MIN, MAX}) {
            Check.refused(t, "of core " + c, byCore(t, kind, c), 1);
        }
        Check.refused(none, "without a MACHINE", byCore(none, kind, 0), 1);
    }

    private static int byCore(TriedLines t, int kind, int c) {
        switch (kind) {
            case 0:
                return t.would(c);
            case 1:
                return t.wouldEnd(c);
            case 2:
                return t.step(c);
            case 3:
                return t.interrupt(c);
            default:
                return t.waysFor(c);
        }
    }

    private static void wouldEnd() {
        Document.says("25", "Cores whose TRIES (its own, too) would END by that, as bits.");
        String text = ";core;begin;get 0;end".repeat(3) + ";core;begin;get 1;put 0;end";
        TriedLines wins = Check.told(head(1, 3, 1, "wins", 5) + text);
        Check.due("at first", wins.wouldEnd(3), 0);
        Check.steps(wins, "00112233", "11111111");
        Check.due("others", wins.wouldEnd(3), 7);
        Check.due("of one that only sees", wins.wouldEnd(0), 0);
        TriedLines yields = Check.told(head(1, 3, 1, "yields", 5) + text);
        Check.steps(yields, "00112233", "11111111");
        Check.due("its own", yields.wouldEnd(3), 8);
        TriedLines both = Check.told(head(1, 2, 1, "wins", 5) + text);
        Check.steps(both, "00112233", "11111111");
        Check.due("others and its own", both.wouldEnd(3), 15);
        Check.steps(both, "3", "3");
        Check.due("those alone that END by that", both.wouldEnd(3), 0);
        Check.steps(both, "0011223", "1111111");
        Check.due("with the LOCK nobody is left", both.wouldEnd(3), 0);
        TriedLines lock = Check.told(head(1, 2, 1, "yields", 1) + text);
        Check.steps(lock, "001133322", "111111311");
        Check.due("by the LOCK", lock.wouldEnd(3), 7);
        Check.due("of one without DEEDS", Check.told(HEAD + ";core").wouldEnd(0), 0);
        Document.says("25", "NONE: 1.");
        refusedByCore(lock, 1, 4);
    }

    private static void step() {
        Document.says("26", "A STEP: as would() tells.");
        TriedLines t = Check.told(head(1, 2, 1, "age", 2) + ";core;begin;put 0;get 1;end;core;begin;get 0;end;core");
        String order = "2010101010000111";
        StringBuilder would = new StringBuilder();
        StringBuilder did = new StringBuilder();
        for (char c : order.toCharArray()) {
            int ends = t.wouldEnd(c - '0');
            int[] ended = new int[3];
            for (int i = 0; i < 3; i++) {
                ended[i] = t.count(i, 0) + t.count(i, 1) + t.count(i, 3);
            }
            would.append(t.would(c - '0'));
            did.append(t.step(c - '0'));
            for (int i = 0; i < 3; i++) {
                int more = t.count(i, 0) + t.count(i, 1) + t.count(i, 3) - ended[i];
                Check.due("TRIES of " + i + " ENDED", more, ends >> i & 1);
            }
        }
        Check.due("steps", did.toString(), would.toString());
        Check.due("steps", did.toString(), "0111231121110111");
        Document.says("26", "NONE: 1.");
        refusedByCore(t, 2, 3);
    }

    private static void rounds() {
        Document.says("27", "n rounds (1 .. 200) IN TURN: how many STEPS.");
        TriedLines t = Check.told(HEAD + ";core;mark;core;mark;mark;mark;core");
        Check.due("rounds(1)", t.rounds(1), 2);
        Check.due("rounds(2)", t.rounds(2), 2);
        Check.due("rounds(200)", t.rounds(200), 0);
        Check.due("TIME", t.about(7), 4);
        TriedLines u = Check.told(MANY_ROUNDS);
        TriedLines v = Check.told(MANY_ROUNDS);
        int all = 0;
        for (int i = 0; i < 5; i++) {
            all += v.rounds(40);
        }
        Check.due("rounds(200)", u.rounds(200), all);
        Check.due("TIME", u.about(7), v.about(7));
        Check.due("state", Look.state(u), Look.state(v));
        // STEPS that WAIT, and that END a TRY, are STEPS
        Check.due("STEPS are TIME", u.about(7), all);
        Check.due("more are left", u.rounds(1) > 0, true);
        int time = u.about(7);
        Check.due("STEPS up to round 542", time + u.rounds(200) + u.rounds(141), u.about(7));
        Check.due("not all is done", Check.done(u, 3), Check.THROWN);
        u.rounds(1);
        Check.due("all is done", Check.done(u, 3), 3);
        Document.says("27", "NONE: 1 (no MACHINE);");
        TriedLines none = new TriedLines();
        Check.refused(none, "rounds(1)", none.rounds(1), 1);
        Check.refused(none, "rounds(0)", none.rounds(0), 1);
        Document.says("27", "2.");
        for (int n : new int[] {0, -1, 201, MIN, MAX}) {
            Check.refused(v, "rounds(" + n + ")", v.rounds(n), 2);
        }
        Check.due("nothing is done", v.about(7), all);
    }

    private static void draws() {
        Document.says("28", "n draws (1 .. 1,000) BY A SEED (0 .. 65,535): how many STEPS.");
        TriedLines t = Check.told(HEAD + ";core;mark;mark;core;mark;mark;mark;core");
        // from SEED 1 the cores are 2, 1, 0, 1, 0
        Check.due("draws(1, 1)", t.draws(1, 1), 0);
        Check.due("draws(4, 1)", t.draws(4, 1), 3);
        Check.due("DEEDS", t.core(0, 0) * 10 + t.core(1, 0), 12);
        Check.due("draws(1000, 0)", t.draws(1000, 0), 2);
        Check.due("draws(1000, 65535)", t.draws(1000, 65535), 0);
        Check.due("TIME", t.about(7), 5);
        TriedLines u = Check.told(DONE_IN_2000);
        TriedLines v = Check.told(DONE_IN_2000);
        int all = 0;
        for (int i = 0; i < 10; i++) {
            all += v.draws(100, seedBehind(100 * i, 971));
        }
        Check.due("draws(1000, 971)", u.draws(1000, 971), all);
        Check.due("state", Look.state(u), Look.state(v));
        Check.due("TIME", u.about(7), all);
        Document.says("28", "NONE: 1 (no MACHINE);");
        TriedLines none = new TriedLines();
        Check.refused(none, "draws(1, 1)", none.draws(1, 1), 1);
        Check.refused(none, "draws(0, -1)", none.draws(0, -1), 1);
        Document.says("28", "2.");
        for (int n : new int[] {0, -1, 1001, MIN, MAX}) {
            Check.refused(u, "draws(" + n + ", 0)", u.draws(n, 0), 2);
        }
        for (int seed : new int[] {-1, 65536, MIN, MAX}) {
            Check.refused(u, "draws(1, " + seed + ")", u.draws(1, seed), 2);
        }
        Check.due("nothing is done", u.about(7), all);
    }

    private static void interrupt() {
        Document.says("29", "A core's TRY ENDS by INTERRUPT (no TIME): its begin's DEED.");
        TriedLines t = Check.told(head(1, 3, 1, "wins", 2)
            + ";core;mark;begin;get 0;end;begin;put 1;get 0;end;core;begin;get 0;end");
        Check.steps(t, "000000011", "111111111");
        Check.due("interrupt(0)", t.interrupt(0), 4);
        Look.core(t, 0, 4, 0, 0, 0, 0, 5);
        Look.count(t, 0, 0, 0, 1, 0, 1, 0, 0);
        Check.due("TIME", t.about(7), 9);
        Check.due("marks", t.reads(0) + t.writes(0), 0);
        // nobody else's
        Look.core(t, 1, 2, 0, 0, 1);
        Check.due("interrupt(1)", t.interrupt(1), 0);
        Check.due("trouble()", t.trouble(), 0);
        for (int i = 0; i < 3; i++) {
            Check.steps(t, "0", "1");
            Check.due("interrupt(0) of begin", t.interrupt(0), 4);
        }
        Check.due("LOST", t.core(0, 4), 0);
        Check.due("INTERRUPTS", t.count(0, 2), 4);
        Document.says("29", "NONE: 1;");
        refusedByCore(t, 3, 2);
        Document.says("29", "5 (it is in no TRY).");
        Check.refused(t, "interrupt(0) OUT", t.interrupt(0), 5);
        TriedLines u = Check.told(head(1, 1, 1, "wins", 2) + ";core;begin;get 0;end");
        Check.refused(u, "interrupt(0) at first", u.interrupt(0), 5);
        Check.steps(u, "000", "131");
        Check.refused(u, "interrupt(0) with the LOCK", u.interrupt(0), 5);
        Check.due("lock()", u.lock(), 0);
        Check.steps(u, "00", "11");
        Check.refused(u, "interrupt(0) at last", u.interrupt(0), 5);
        Look.count(u, 0, 0, 1, 0, 0, 1, 1, 0);
    }

    private static void tried() {
        Document.says("30",
            "0 how many STEPS, 1 how many TRIES ENDED by CONFLICT, 2 by CAPACITY, 3 by LOCK, 4 COMMITS with the "
            + "LOCK, 5 how often one WAITED;");
        // from SEED 1 by four cores: 0 2 2 3 3 3 2 ..: 2 begins, gets; 3 begins, puts, ends; 2 goes on
        TriedLines t = Check.told(head(1, 4, 1, "wins", 3) + ";core;core;core;begin;get 0;end;core;begin;put 0;end");
        triedIs(t, 0, 2, 1, 8, 1, 0, 0, 0, 0);
        triedIs(t, 0, 1, 1, 8, 1, 0, 0, 1, 0);
        triedIs(t, 1, 2, 1, 8, 0, 0, 0, 0, 2);
        triedIs(t, 2, 2, 1, 8, 1, 0, 0, 0, 0);
        // from SEED 3 by two: 1 1 0 1 0 1 0 0 1 0 1 0 1 0 1 0 ..: 1 ENDS by CAPACITY, then 0 by LOCK, and WAITS
        TriedLines u = Check.told(head(1, 2, 1, "wins", 3) + ";core;begin;mark;mark;end;core;begin;get 0;get 1;end");
        triedIs(u, 0, 3, 3, 17, 0, 1, 1, 1, 4);
        triedIs(Check.told(DONE_IN_2000), 2, 9, 971, 1367, 107, 1, 28, 12, 178);
        Document.says("30", "-2 each, if DEEDS are left then.");
        TriedLines v = Check.told(DONE_IN_2001);
        for (int what = 0; what < 6; what++) {
            Check.due("tried(2, 9, 404, " + what + ")", v.tried(2, 9, 404, what), -2);
            Check.due("trouble()", v.trouble(), 0);
            Check.due("by another RULE", v.tried(0, 9, 404, what) >= 0, true);
        }
        Document.says("30", "NONE: 1 (no MACHINE; what);");
        for (int what : new int[] {-1, 6, MIN, MAX}) {
            Check.refused(v, "tried(0, 1, 0, " + what + ")", v.tried(0, 1, 0, what), 1);
        }
        TriedLines none = new TriedLines();
        Check.refused(none, "tried(0, 1, 0, 0)", none.tried(0, 1, 0, 0), 1);
        Document.says("30", "2.");
        int[][] bad = {{-1, 1, 0}, {3, 1, 0}, {0, 0, 0}, {0, 10, 0}, {0, 1, -1}, {0, 1, 65536}};
        for (int[] each : bad) {
            Check.refused(t, "tried" + java.util.Arrays.toString(each), t.tried(each[0], each[1], each[2], 0), 2);
        }
    }

    private static void triedWord() {
        Document.says("31", "THE WORD of an ADDRESS then (whether DEEDS are left or not).");
        TriedLines t = Check.told(head(1, 4, 2, "wins", 3) + ";word 1 5;word 31 6" + TWO);
        // from SEED 1 core 0 is done first; from SEED 0 the draws are 0 1 1 0 ..
        Check.due("triedWord(0, 9, 1, 0)", t.triedWord(0, 9, 1, 0), 8);
        Check.due("triedWord(0, 9, 1, 1)", t.triedWord(0, 9, 1, 1), 5);
        Check.due("triedWord(0, 9, 1, 31)", t.triedWord(0, 9, 1, 31), 6);
        Check.due("triedWord(0, 9, 1, 2)", t.triedWord(0, 9, 1, 2), 0);
        triedWordByRuleTries();
        TriedLines u = Check.told(DONE_IN_2001);
        u.draws(1000, 404);
        u.draws(1000, seedBehind(1000, 404));
        int then = u.word(1);
        for (int a = 0; a < 16; a++) {
            Check.due("with a DEED left, triedWord(2, 9, 404, " + a + ")", u.triedWord(2, 9, 404, a), u.word(a));
            Check.due("trouble()", u.trouble(), 0);
        }
        u.draws(1, seedBehind(2000, 404));
        Check.due("word(1) then, at last", then * 1000 + u.word(1), 7 * 1000 + 7);
        Document.says("31", "NONE: 1;");
        for (int a : new int[] {-1, 32, 64, MIN, MAX}) {
            Check.refused(t, "triedWord(0, 1, 0, " + a + ")", t.triedWord(0, 1, 0, a), 1);
        }
        TriedLines none = new TriedLines();
        Check.refused(none, "triedWord(0, 1, 0, 0)", none.triedWord(0, 1, 0, 0), 1);
        Document.says("31", "2.");
        int[][] bad = {{-1, 1, 0}, {3, 1, 0}, {0, 0, 0}, {0, 10, 0}, {0, 1, -1}, {0, 1, 65536}};
        for (int[] each : bad) {
            Check.refused(t, "triedWord" + java.util.Arrays.toString(each), t.triedWord(each[0], each[1], each[2], 0), 2);
        }
    }

    /** THE WORD is as by draws on a MACHINE told by that RULE, those TRIES; both are some matter. */
    private static void triedWordByRuleTries() {
        String text = ";core;begin;get 0;mark;put 1 x;plus 2;put 0;end".repeat(2) + ";core;begin;get 0;plus 3;put 1;put 0;end";
        String[] rules = {"wins", "age", "yields"};
        TriedLines t = Check.told(head(1, 4, 1, "wins", 5) + text);
        boolean byRule = false;
        boolean byTries = false;
        for (int seed = 0; seed < 30; seed++) {
            int[][] words = new int[3][2];
            for (int rule = 0; rule < 3; rule++) {
                for (int i = 0; i < 2; i++) {
                    TriedLines u = Check.told(head(1, 4, 1, rules[rule], 1 + 7 * i) + text);
                    u.draws(1000, seed);
                    words[rule][i] = u.word(1);
                    String call = "triedWord(" + rule + ", " + (1 + 7 * i) + ", " + seed + ", 1)";
                    Check.due(call, t.triedWord(rule, 1 + 7 * i, seed, 1), words[rule][i]);
                }
                byTries |= words[rule][0] != words[rule][1];
            }
            byRule |= words[0][0] != words[1][0] || words[0][0] != words[2][0];
        }
        Check.due("the RULE is some matter", byRule, true);
        Check.due("TRIES are some matter", byTries, true);
    }

    private static void best() {
        Document.says("32", "The RULE by which, with TRIES as told, there are the fewest STEPS, of several the first;");
        String longer = ";core;begin;get 0;get 0;put 1;end;core;begin;put 0;put 0;end";
        TriedLines t = Check.told(head(1, 4, 1, "yields", 2) + longer);
        int[][] seeds = {{1, 0}, {20, 1}, {29, 2}};
        for (int[] each : seeds) {
            Check.due("best(" + each[0] + ")", t.best(each[0]), each[1]);
        }
        // of all three alike, and of two
        Check.due("alike", Check.told(head(1, 4, 1, "yields", 2) + ";core;begin;get 0;end").best(5), 0);
        Check.due("without DEEDS", Check.told(head(1, 4, 1, "age", 2) + ";core").best(5), 0);
        bestOfTwo();
        byTriesAsTold();
        Document.says("32", "-2 if by none all is done.");
        FewDraws.best();
        Document.says("32", "NONE: 1 (no MACHINE);");
        TriedLines none = new TriedLines();
        Check.refused(none, "best(0)", none.best(0), 1);
        Check.refused(none, "best(-1)", none.best(-1), 1);
        Document.says("32", "2.");
        for (int seed : new int[] {-1, 65536, MIN, MAX}) {
            Check.refused(t, "best(" + seed + ")", t.best(seed), 2);
        }
        Check.due("best(65535)", t.best(65535) >= 0, true);
        Check.due("best(0)", t.best(0) >= 0, true);
    }

    /** From some SEED each two RULES are alike, and fewer than the third. */
    private static void bestOfTwo() {
        TriedLines t = Check.told(head(1, 4, 1, "yields", 2)
            + ";core;begin;get 1;end;core;begin;put 1;end;core;begin;put 1;end");
        boolean[] found = new boolean[4];
        for (int seed = 0; seed < 100; seed++) {
            int[] steps = new int[3];
            for (int rule = 0; rule < 3; rule++) {
                steps[rule] = t.tried(rule, 2, seed, 0);
            }
            int due = steps[1] < steps[0] ? 1 : 0;
            due = steps[2] < steps[due] ? 2 : due;
            Check.due("best(" + seed + ")", t.best(seed), due);
            found[0] |= steps[0] == steps[1] && steps[0] < steps[2];
            found[1] |= steps[0] == steps[2] && steps[0] < steps[1];
            found[2] |= steps[1] == steps[2] && steps[1] < steps[0];
            found[3] |= steps[0] == steps[1] && steps[1] == steps[2];
        }
        Check.due("0 and 1 alike", found[0], true);
        Check.due("0 and 2 alike", found[1], true);
        Check.due("1 and 2 alike", found[2], true);
        Check.due("all alike", found[3], true);
    }

    /** The RULE told is no matter, TRIES told are: from some SEED they lead to another RULE. */
    private static void byTriesAsTold() {
        String text = ";core;begin;get 0;put 1;put 0;end;core;begin;put 0;get 1;put 1;end;core;begin;get 1;put 0;get 0;end";
        boolean differs = false;
        for (int seed = 0; seed < 40; seed++) {
            int[] best = new int[2];
            for (int i = 0; i < 2; i++) {
                int tries = 1 + 4 * i;
                TriedLines t = Check.told(head(1, 4, 1, "age", tries) + text);
                best[i] = t.best(seed);
                int due = 0;
                for (int rule = 1; rule < 3; rule++) {
                    due = t.tried(rule, tries, seed, 0) < t.tried(due, tries, seed, 0) ? rule : due;
                }
                Check.due("best(" + seed + ") by TRIES " + tries, best[i], due);
                TriedLines u = Check.told(head(1, 4, 1, "yields", tries) + text);
                Check.due("best(" + seed + ") by another RULE told", u.best(seed), due);
            }
            differs |= best[0] != best[1];
        }
        Check.due("TRIES are some matter", differs, true);
    }

    private static void waysFor() {
        Document.says("33",
            "The fewest WAYS (1 .. 17) by which a core alone, with SETS as told, from the words told at first,",
            "would have no TRY that ENDS by CAPACITY.");
        // so many LINES beside the LOCK's
        for (int lines = 0; lines <= 16; lines++) {
            StringBuilder text = new StringBuilder(head(1, 1, 4, "wins", 1) + ";core;mark;core;begin");
            for (int i = 0; i < lines; i++) {
                text.append(i % 2 == 0 ? ";get " : ";put ").append(4 * i);
            }
            TriedLines t = Check.told(text + ";get 0;end");
            Check.due("waysFor(1) of " + lines, t.waysFor(1), lines == 0 ? 2 : lines + 1);
            Check.due("waysFor(0)", t.waysFor(0), 1);
        }
        Check.due("of a TRY without get, put", Check.told(head(4, 1, 4, "wins", 1) + ";core;begin;end").waysFor(0), 1);
        // by SETS: LINES 0, 4, 8 are with the LOCK's, LINES 1, 5, 9, 13 are not
        String deeds = ";core;begin;get 0;get 4;put 8;get 1;put 5;get 9;get 13;get 2;end";
        int[] sets = {1, 2, 4};
        int[] ways = {9, 5, 4};
        for (int i = 0; i < 3; i++) {
            TriedLines t = Check.told(head(sets[i], 1, 1, "wins", 1) + deeds);
            Check.due("waysFor(0) by SETS " + sets[i], t.waysFor(0), ways[i]);
        }
        // each TRY for itself: the widest
        Check.due("of several", Check.told(head(1, 1, 1, "wins", 1)
            + ";core;begin;get 0;end;begin;get 1;get 2;end;begin;get 3;end").waysFor(0), 3);
        // alone, from the words told at first: the other core's are no matter, its own are
        TriedLines t = Check.told(head(1, 1, 1, "wins", 1) + ";word 0 5;core;begin;get 0;mark;get 0 x;get 5;end"
            + ";core;begin;plus 6;put 0;end;core;begin;plus 5;put 0;end;begin;get 0;mark;get 0 x;get 5;end");
        Check.due("waysFor(0)", t.waysFor(0), 3);
        Check.steps(t, "1111111", "1131111");
        Check.due("word(0)", t.word(0), 6);
        Check.due("waysFor(0) behind others", t.waysFor(0), 3);
        Check.due("waysFor(2)", t.waysFor(2), 3);
        Document.says("33", "NONE: 1.");
        refusedByCore(t, 4, 3);
    }

    private static void keep() {
        Document.says("34", "All is kept as it is (what was kept before is no more): true;");
        TriedLines t = Check.told(head(1, 2, 1, "wins", 2) + ";word 0 6;core;begin;get 0;plus 1;put 0;end"
            + ";core;begin;put 0;put 1;end;core;mark;begin;end");
        Check.steps(t, "0", "1");
        Check.due("keep()", t.keep(), true);
        Check.due("trouble()", t.trouble(), 0);
        String first = Look.state(t);
        Check.steps(t, "00211", "11111");
        String second = Look.state(t);
        int time = t.about(7);
        t.word(-1);
        Check.due("keep() again", t.keep(), true);
        Check.due("trouble()", t.trouble(), 0);
        Check.due("state", Look.state(t), second);
        Check.due("another", first.equals(second), false);
        Check.steps(t, "111", "311");
        t.back();
        Check.due("state", Look.state(t), second);
        Check.due("TIME", t.about(7), time);
        Document.says("34", "false: 1 (no MACHINE).");
        TriedLines none = new TriedLines();
        none.machine(-1);
        Check.due("keep()", none.keep(), false);
        Check.due("trouble()", none.trouble(), 1);
        Check.due("size(3)", none.size(3), 0);
        none.machine(-1);
        Check.due("back()", none.back(), false);
        Check.due("trouble()", none.trouble(), 1);
    }

    private static void back() {
        Document.says("35", "All is as it was kept (it stays kept): true;");
        // kept with a TRY, with the LOCK, at first, at last; brought back from elsewhere, again and again
        String text = head(1, 2, 1, "wins", 2) + ";word 0 6;core;begin;get 0;get 1;plus 1;put 0;end"
            + ";core;begin;put 0;put 1;end;core;plus 3;mark;begin;end";
        String order = "0122100000000111112222";
        for (int at = 0; at <= order.length(); at += 3) {
            TriedLines t = Check.told(text);
            for (int i = 0; i < at; i++) {
                t.step(order.charAt(i) - '0');
            }
            String kept = Look.state(t) + " TIME " + t.about(7) + " WAITED " + t.count(0, 6) + t.count(1, 6) + t.count(2, 6);
            t.keep();
            for (int i = 0; i < 2; i++) {
                t.rounds(3 + 20 * i);
                t.interrupt(1);
                Check.due("back() of " + at, t.back(), true);
                Check.due("trouble()", t.trouble(), 0);
                Check.due("size(3)", t.size(3), 1);
                String now = Look.state(t) + " TIME " + t.about(7) + " WAITED " + t.count(0, 6) + t.count(1, 6) + t.count(2, 6);
                Check.due("state of " + at, now, kept);
            }
        }
        // what comes behind is as it was the first time
        TriedLines t = Check.told(text);
        Check.steps(t, "01221", "11111");
        t.keep();
        int steps = t.rounds(200);
        String last = Look.state(t);
        int agrees = t.agrees();
        t.back();
        Check.due("rounds(200)", t.rounds(200), steps);
        Check.due("state at last", Look.state(t), last);
        Check.due("agrees()", t.agrees(), agrees);
        backToLines();
        Document.says("35", "false: 1 (nothing is).");
        TriedLines none = Check.told(text);
        none.rounds(0);
        Check.due("back()", none.back(), false);
        Check.due("trouble()", none.trouble(), 1);
        Check.due("size(3)", none.size(3), 0);
        Check.steps(none, "0", "1");
        Check.due("back() does nothing", none.back(), false);
        Check.due("TIME", none.about(7), 1);
    }

    /** What a CACHE had, and which begin a TRY goes back to, though others are there since. */
    private static void backToLines() {
        TriedLines t = Check.told(head(1, 2, 2, "wins", 2)
            + ";word 1 4;core;begin;plus 5;put 0;end;begin;plus 6;put 0;get 1;end;begin;plus 7;put 1;end");
        Check.steps(t, "000000", "111111");
        t.keep();
        Check.steps(t, "0000000", "1111111");
        Check.due("words then", t.word(0) * 1000 + t.word(1), 6007);
        t.back();
        Check.due("words kept", t.word(0) * 1000 + t.word(1), 5004);
        Check.due("cached(0, 0)", t.cached(0, 0), 5);
        Check.due("its begin's DEED", t.interrupt(0), 4);
        Check.steps(t, "000000000", "111111111");
        Check.due("agrees()", t.agrees(), 1);
        // in the last PLACE of the last core, in the last word of its LINE
        TriedLines u = Check.told(head(4, 4, 4, "wins", 2) + ";core;core;core"
            + ";core;begin;get 12;get 28;get 44;plus 5;put 63;end;begin;plus 6;put 63;end");
        Check.steps(u, "3333333", "1111111");
        Look.place(u, 3, 3, 3, 15, 3, 0, 0, 6);
        u.keep();
        Check.steps(u, "3333", "1111");
        u.back();
        Check.due("word(63)", u.word(63), 5);
        Check.due("cached(3, 63)", u.cached(3, 63), 5);
    }

    private static void done() {
        Document.says("36", "The i-th core, by numbers, that has no DEED left.");
        TriedLines t = Check.told(HEAD + ";core;mark;core;core;mark;core");
        Check.due("done(0)", Check.done(t, 0), 1);
        Check.due("done(1)", Check.done(t, 1), 3);
        t.step(2);
        Check.due("done(1)", Check.done(t, 1), 2);
        Check.due("done(2)", Check.done(t, 2), 3);
        Document.says("36", "NoSuchElementException if there is none such.");
        for (int i : new int[] {-1, 3, 4, MIN, MAX}) {
            Check.due("done(" + i + ")", Check.done(t, i), Check.THROWN);
        }
        t.step(0);
        for (int c = 0; c < 4; c++) {
            Check.due("done(" + c + ")", Check.done(t, c), c);
        }
        Check.due("done(4)", Check.done(t, 4), Check.THROWN);
        Check.due("of none done", Check.done(Check.told(HEAD + ";core;mark"), 0), Check.THROWN);
        Check.due("without a MACHINE", Check.done(new TriedLines(), 0), Check.THROWN);
        // one that WAITS, or whose last TRY ENDED, has DEEDS left
        TriedLines u = Check.told(HEAD + ";core;begin;end");
        Check.steps(u, "0", "1");
        u.interrupt(0);
        Check.due("with DEEDS left", Check.done(u, 0), Check.THROWN);
    }

    private static void size() {
        Document.says("37", "0 bytes of THE TAPE, 1 words told, 2 DEEDS of all cores, 3 1 if something is kept.");
        String text = HEAD + ";word 3 0;word 9 1;core;mark;core;core;begin;end";
        TriedLines t = Check.told(text);
        Check.due("size(0)", t.size(0), 0);
        t.feed(0, 0, 0, 0, 0);
        t.feed(0, 0, 0, 0, 0);
        Check.due("size(0)", t.size(0), 40);
        Check.due("size(1)", t.size(1), 2);
        Check.due("size(2)", t.size(2), 3);
        t.rounds(3);
        Check.due("size(2) behind STEPS", t.size(2), 3);
        Check.due("size(3)", t.size(3), 0);
        t.keep();
        Check.due("size(3)", t.size(3), 1);
        t.back();
        Check.due("size(3)", t.size(3), 1);
        t.machine(0);
        Check.due("size(0)", t.size(0), 0);
        Check.due("size(3)", t.size(3), 1);
        Check.due("DEEDS", Check.told(HEAD + (";core" + ";mark".repeat(24)).repeat(4)).size(2), 96);
        Document.says("37", "NONE for others;");
        for (int what : new int[] {-1, 4, MIN, MAX}) {
            Check.due("size(" + what + ")", t.size(what), -1);
            Check.due("size(" + what + ") without a MACHINE", new TriedLines().size(what), -1);
        }
        Document.says("37", "0 for what there isn't.");
        TriedLines none = new TriedLines();
        for (int what = 0; what < 4; what++) {
            Check.due("size(" + what + ") of a new one", none.size(what), 0);
        }
        TriedLines bare = Check.told(HEAD + ";core");
        for (int what = 0; what < 4; what++) {
            Check.due("size(" + what + ") of a bare MACHINE", bare.size(what), 0);
        }
    }

    private static void trouble() {
        Document.says("38", "TROUBLE.");
        TriedLines t = new TriedLines();
        Check.due("of a new one", t.trouble(), 0);
        t.step(0);
        Check.due("1", t.trouble(), 1);
        Check.due("1 again", t.trouble(), 1);
        t.machine(1);
        Check.due("2", t.trouble(), 2);
        t.machine(0);
        Check.due("4", t.trouble(), 4);
        Check.tell(t, HEAD + ";core");
        Check.due("0", t.trouble(), 0);
        t.interrupt(0);
        Check.due("5", t.trouble(), 5);
        t.size(9);
        Check.due("5 still", t.trouble(), 5);
        t.lock();
        Check.due("0 again", t.trouble(), 0);
    }
}
