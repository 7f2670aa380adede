/** Promises 8 to 29, with terms II and III: words, caches, cores and steps. */
public final class StepTests {
    public static void main(String[] args) {
        oneCore();
        values();
        indexed();
        savedAhead();
        wholeLines();
        seeing();
        wins();
        waits();
        waitsForOneOfTwo();
        yields();
        capacity();
        capacityBehindConflict();
        theLock();
        leastUsed();
        sets();
        interrupts();
        advices();
        rounds();
        draws();
        alone();
        refusals();
        Check.end("StepTests");
    }

    private static void oneCore() {
        TriedLines t = Check.told(Look.head(1, 2, 2, "wins", 2)
            + ";word 0 5;word 3 7;core;begin;get 0;plus 1;put 1;end;mark");
        Look.core(t, 0, 0, 0, 0, 0, 0, -2, 6);
        Look.count(t, 0, 0, 0, 0, 0, 0, 0, 0);
        Look.place(t, 0, 0, 0, -2, 0, 0, 0, -2);
        Look.traffic(t, 0, 0, 0);
        Check.due("cached without the LINE", t.cached(0, 0), -2);
        Look.would(t, 0, 1, 0);
        Check.due("would() does nothing", t.about(7), 0);
        Check.steps(t, "0", "1");
        Look.core(t, 0, 1, 0, 0, 1, 0, 1, 6);
        Look.place(t, 0, 0, 0, 16, 2, 1, 0, 1);
        Check.steps(t, "0", "1");
        Look.core(t, 0, 2, 5, 0, 1, 0, 1, 6);
        Look.place(t, 0, 0, 1, 0, 2, 1, 0, 2);
        Check.due("reads", t.reads(0), 1 << 16 | 1);
        Check.due("writes", t.writes(0), 0);
        Check.steps(t, "00", "11");
        Look.place(t, 0, 0, 1, 0, 3, 1, 1, 4);
        Check.due("writes", t.writes(0), 1);
        Check.due("cached(0, 1)", t.cached(0, 1), 6);
        Check.due("cached(0, 0)", t.cached(0, 0), 5);
        Check.due("cached(0, 2)", t.cached(0, 2), -2);
        Check.due("word(1), not committed", t.word(1), 0);
        Check.due("serial(1), not committed", t.serial(1), 0);
        Check.due("agrees", t.agrees(), 1);
        Check.steps(t, "0", "1");
        Check.due("word(1)", t.word(1), 6);
        Check.due("memory(1)", t.memory(1), 0);
        Check.due("serial(1)", t.serial(1), 6);
        Check.due("word(3)", t.word(3), 7);
        Check.due("agrees", t.agrees(), 1);
        Check.due("reads", t.reads(0), 0);
        Check.due("writes", t.writes(0), 0);
        Look.place(t, 0, 0, 1, 0, 3, 0, 0, 4);
        Look.core(t, 0, 5, 6, 0, 0, 0, -2, 6);
        Look.count(t, 0, 0, 0, 0, 0, 1, 0, 0);
        Look.traffic(t, 2, 0, 0);
        int[] commit = {0, 0, 5, 0};
        for (int what = 0; what < 4; what++) {
            Check.due("commit(0, " + what + ")", t.commit(0, what), commit[what]);
        }
        Check.steps(t, "0", "1");
        Look.core(t, 0, -2, 6, 6, 0, 0, -2, 6);
        Look.would(t, 0, 0, 0);
        Check.steps(t, "0", "0");
        Check.due("no TIME without DEEDS", t.about(7), 6);
    }

    private static void values() {
        TriedLines t = Check.told(Look.head(1, 2, 1, "wins", 2)
            + ";core;less 1;plus 2;mark;less 999;begin;plus 999;plus 2;mark;end");
        Check.steps(t, "0", "1");
        Look.core(t, 0, 1, 999, 0);
        Check.steps(t, "00", "11");
        Look.core(t, 0, 3, 1, 1);
        Check.steps(t, "0", "1");
        Look.core(t, 0, 4, 2, 1);
        Check.steps(t, "0", "1");
        Look.core(t, 0, 5, 0, 0);
        Check.steps(t, "000", "111");
        Look.core(t, 0, 8, 1, 1);
    }

    private static void indexed() {
        TriedLines t = Check.told(Look.head(1, 4, 1, "wins", 2)
            + ";word 3 77;word 2 8;core;begin;plus 19;mark;get 0 x;put 15 x;get 2;end");
        Check.steps(t, "0000", "1111");
        Look.core(t, 0, 4, 77, 19, 1);
        Check.due("reads by X", t.reads(0), 1 << 16 | 1 << 3);
        Check.steps(t, "0", "1");
        Check.due("writes by X", t.writes(0), 1 << 2);
        Check.steps(t, "00", "11");
        Look.core(t, 0, -2, 77, 19, 0);
        Check.due("word(2)", t.word(2), 77);
        Check.due("serial(2)", t.serial(2), 77);
        Check.due("alone(0, 2)", t.alone(0, 2), 77);
    }

    /** A put in a TRY on a LINE CHANGED without a WRITE mark writes it to MEMORY. */
    private static void savedAhead() {
        TriedLines t = Check.told(Look.head(1, 4, 1, "wins", 2)
            + ";core;begin;plus 5;put 0;end;begin;plus 9;put 0;put 0;end");
        Check.steps(t, "000000", "111111");
        Check.due("memory(0) ahead", t.memory(0), 0);
        Check.due("word(0) ahead", t.word(0), 5);
        Check.steps(t, "0", "1");
        Check.due("memory(0)", t.memory(0), 5);
        Check.due("word(0)", t.word(0), 5);
        Check.due("cached(0, 0)", t.cached(0, 0), 9);
        Look.traffic(t, 2, 1, 0);
        Check.steps(t, "0", "1");
        Look.traffic(t, 2, 1, 0);
        Check.due("interrupt(0)", t.interrupt(0), 4);
        Check.due("word(0) then", t.word(0), 5);
        Check.due("the LINE is gone", t.cached(0, 0), -2);
        Look.place(t, 0, 0, 1, -2, 0, 0, 0, -2);
        Look.place(t, 0, 0, 0, 16, 2, 0, 0, 5);
        Check.due("agrees", t.agrees(), 1);
    }

    /** A LINE comes, and is written, with all its words. */
    private static void wholeLines() {
        TriedLines t = Check.told(Look.head(1, 2, 4, "wins", 2)
            + ";word 4 1;word 5 2;word 6 3;word 7 4;word 8 5;word 11 6"
            + ";core;begin;plus 9;put 6;end;core;begin;get 11;get 5;end");
        Check.steps(t, "00001", "11111");
        Check.steps(t, "1", "1");
        int[] due = {5, 0, 0, 6};
        for (int k = 0; k < 4; k++) {
            Check.due("cached(1, " + (8 + k) + ")", t.cached(1, 8 + k), due[k]);
        }
        Check.steps(t, "1", "3");
        Check.steps(t, "11", "11");
        Check.steps(t, "1", "1");
        int[] written = {1, 2, 9, 4};
        for (int k = 0; k < 4; k++) {
            Check.due("memory(" + (4 + k) + ")", t.memory(4 + k), written[k]);
            Check.due("cached(1, " + (4 + k) + ")", t.cached(1, 4 + k), written[k]);
        }
        Check.due("memory(3)", t.memory(3), 0);
        Check.due("memory(8)", t.memory(8), 5);
        Look.core(t, 1, 3, 2, 0, 2);
    }

    /** TO SEE a LINE that others have ALONE, CHANGED. */
    private static void seeing() {
        TriedLines t = Check.told(Look.head(1, 4, 1, "wins", 2)
            + ";core;begin;plus 4;put 0;end;begin;get 0;end;core;begin;get 0;get 1;end");
        Check.steps(t, "0000", "1111");
        Check.steps(t, "1", "1");
        Look.place(t, 0, 0, 0, 16, 1, 0, 0, 1);
        Look.place(t, 1, 0, 0, 16, 1, 1, 0, 5);
        Check.due("sharers(16)", t.sharers(16), 3);
        Check.due("sharers(0)", t.sharers(0), 1);
        Check.steps(t, "1", "1");
        Look.core(t, 1, 2, 4);
        Check.due("memory(0)", t.memory(0), 4);
        Look.place(t, 0, 0, 1, 0, 1, 0, 0, 3);
        Look.place(t, 1, 0, 1, 0, 1, 1, 0, 6);
        Look.traffic(t, 4, 1, 0);
        Check.due("sharers(0)", t.sharers(0), 3);
        Check.steps(t, "1", "1");
        Look.place(t, 1, 0, 2, 1, 2, 1, 0, 7);
        // a LINE that is there comes not again, and stays as it is
        Check.steps(t, "00", "11");
        Look.place(t, 0, 0, 1, 0, 1, 1, 0, 9);
        Look.traffic(t, 5, 1, 0);
        Look.count(t, 1, 0, 0, 0, 0, 0, 0, 0);
    }

    private static void wins() {
        String two = ";core;begin;put 0;end;core;begin;put 0;get 1;end;core;begin;get 0;end";
        TriedLines t = Check.told(Look.head(1, 4, 1, "wins", 3) + two);
        Check.steps(t, "0110", "1111");
        Look.core(t, 0, 2, 0, 0, 1, 0, 1);
        Look.core(t, 1, 0, 0, 0, 0, 1, 2);
        Look.count(t, 1, 1);
        Check.due("the LINE with a WRITE mark is gone", t.sharers(0), 1);
        Check.due("it was not gone TO OWN it", t.traffic(2), 0);
        Check.steps(t, "2", "1");
        Look.would(t, 2, 1, 1);
        Check.steps(t, "2", "1");
        Look.core(t, 0, 0, 0, 0, 0, 1, 1);
        Check.steps(t, "1", "1");
        Look.would(t, 1, 1, 4);
        Check.steps(t, "1", "1");
        Look.core(t, 2, 0, 0, 0, 0, 1, 5);
        Check.due("gone TO OWN it", t.traffic(2), 1);
        Check.due("AGE stays", t.core(1, 5), 2);
    }

    private static void waits() {
        TriedLines t = Check.told(Look.head(1, 4, 1, "age", 3) + ";core;begin;put 0;end;core;begin;plus 3;put 0;end");
        Check.steps(t, "01110", "11111");
        Look.count(t, 1, 1, 0, 0, 0, 0, 0, 0);
        Look.core(t, 1, 0, 0, 0, 0, 1, 2);
        Check.steps(t, "11", "11");
        Look.would(t, 1, 2, 0);
        Check.steps(t, "1", "2");
        Look.core(t, 1, 2, 3, 0, 1, 1, 2);
        Look.count(t, 1, 1, 0, 0, 0, 0, 0, 1);
        Check.due("a STEP that WAITS takes TIME", t.about(7), 8);
        Check.due("and does nothing", t.sharers(0), 1);
        Check.steps(t, "01", "11");
        Check.due("traffic(2)", t.traffic(2), 1);
        Check.due("memory(0)", t.memory(0), 0);
        Check.steps(t, "1", "1");
        Check.due("word(0)", t.word(0), 3);
        Look.core(t, 1, -2, 3, 0, 0, 0, -2);
    }

    /** By age a core WAITS if but one of those asked is older. */
    private static void waitsForOneOfTwo() {
        TriedLines t = Check.told(Look.head(1, 4, 1, "age", 3)
            + ";core;begin;get 0;end;core;begin;put 0;end;core;begin;get 0;end");
        Check.steps(t, "01202", "11111");
        Look.would(t, 1, 2, 0);
        Check.steps(t, "1", "2");
        Check.steps(t, "0", "1");
        Look.would(t, 1, 1, 4);
        Check.steps(t, "1", "1");
        Look.count(t, 2, 1);
        Look.count(t, 1, 0, 0, 0, 0, 0, 0, 1);
    }

    private static void yields() {
        TriedLines t = Check.told(Look.head(1, 4, 1, "yields", 3) + ";core;begin;put 1;put 0;end;core;begin;get 0;end");
        Check.steps(t, "0110", "1111");
        Look.would(t, 0, 3, 1);
        Check.steps(t, "0", "3");
        Look.core(t, 0, 0, 0, 0, 0, 1, 1);
        Look.count(t, 0, 1);
        Look.core(t, 1, 2, 0, 0, 1, 0, 2);
        Check.due("sharers(1)", t.sharers(1), 0);
        Check.due("TIME", t.about(7), 5);
        Check.due("LOCK's LINE stays", t.sharers(16), 3);
        // TO SEE asks not those with READ marks
        TriedLines u = Check.told(Look.head(1, 4, 1, "yields", 3) + ";core;begin;get 0;end;core;begin;get 0;end");
        Check.steps(u, "010110", "111111");
    }

    private static void capacity() {
        TriedLines t = Check.told(Look.head(1, 1, 1, "wins", 3) + ";core;begin;get 0;plus 2;put 0;end");
        Check.steps(t, "0", "1");
        Look.would(t, 0, 3, 1);
        Check.steps(t, "0", "3");
        Look.count(t, 0, 0, 1, 0, 0, 0, 0, 0);
        Look.core(t, 0, 0, 0, 0, 0, 3, 1);
        Look.traffic(t, 1, 0, 0);
        Check.due("lock()", t.lock(), -2);
        Check.steps(t, "0", "1");
        Check.due("lock()", t.lock(), 0);
        Look.core(t, 0, 1, 0, 0, 2, 3, 1);
        Look.place(t, 0, 0, 0, 16, 3, 0, 0, 3);
        Check.steps(t, "0", "1");
        Look.place(t, 0, 0, 0, 0, 2, 0, 0, 4);
        Look.traffic(t, 2, 1, 0);
        Check.steps(t, "00", "11");
        Check.due("reads", t.reads(0), 0);
        Check.due("writes", t.writes(0), 0);
        Check.due("word(0) with the LOCK", t.word(0), 2);
        Check.due("agrees ahead of the end", t.agrees(), 0);
        Check.steps(t, "0", "1");
        Check.due("lock()", t.lock(), -2);
        Check.due("agrees", t.agrees(), 1);
        Check.due("memory(0)", t.memory(0), 0);
        Look.count(t, 0, 0, 1, 0, 0, 1, 1, 0);
        Look.core(t, 0, -2, 2, 0, 0, 0, -2);
        Check.due("commit(0, 3)", t.commit(0, 3), 1);
        Check.due("commit(0, 2)", t.commit(0, 2), 7);
    }

    /** Those asked END ahead of the search for a PLACE. */
    private static void capacityBehindConflict() {
        TriedLines t = Check.told(Look.head(1, 2, 1, "wins", 2) + ";core;begin;get 1;get 0;end;core;begin;put 0;end");
        Check.steps(t, "0101", "1111");
        Look.would(t, 0, 3, 3);
        Check.steps(t, "0", "3");
        Look.count(t, 0, 0, 1);
        Look.count(t, 1, 1, 0);
        Check.due("LOST by CAPACITY", t.core(0, 4), 2);
        Check.due("LOST by CONFLICT", t.core(1, 4), 1);
    }

    private static void theLock() {
        TriedLines t = Check.told(Look.head(1, 4, 1, "wins", 1)
            + ";core;begin;plus 1;put 0;put 1;end;core;begin;put 0;end;core;plus 7;begin;end");
        Check.steps(t, "00011", "11111");
        Look.count(t, 0, 1);
        Check.due("core(0, 4)", t.core(0, 4), 1);
        Check.due("lock()", t.lock(), -2);
        Look.would(t, 0, 1, 2);
        Check.steps(t, "0", "1");
        Check.due("lock()", t.lock(), 0);
        Look.core(t, 0, 1, 0, 0, 2, 1, 1);
        Look.core(t, 1, 0, 0, 0, 0, 0, 4);
        Look.count(t, 1, 0, 0, 0, 1);
        Check.due("traffic(2)", t.traffic(2), 1);
        Check.due("sharers(16)", t.sharers(16), 1);
        Look.would(t, 1, 2, 0);
        Check.steps(t, "122", "212");
        Look.count(t, 1, 0, 0, 0, 1, 0, 0, 1);
        // one that WAITS at its begin has done nothing
        Look.core(t, 2, 1, 7, 0, 0, 0, -2);
        Check.due("interrupt of the LOCK's core", t.interrupt(0), -1);
        Check.due("its trouble()", t.trouble(), 5);
        Check.steps(t, "0000", "1111");
        Check.due("lock()", t.lock(), -2);
        Look.place(t, 0, 0, 0, 16, 3, 0, 0, 6);
        int written = t.traffic(1);
        Check.steps(t, "1", "1");
        Check.due("the LOCK's LINE is written", t.traffic(1), written + 1);
        Look.place(t, 0, 0, 0, 16, 1, 0, 0, 6);
        Check.due("AGE stays behind the LOCK", t.core(1, 5), 4);
        Check.due("commit(0, 0)", t.commit(0, 0), 0);
        Check.due("commit(0, 3)", t.commit(0, 3), 1);
        twoForTheLock();
    }

    /** With LOST at TRIES a begin WAITS for the LOCK, too; whatever the RULE, TRIES END by it. */
    private static void twoForTheLock() {
        for (String rule : new String[] {"wins", "age", "yields"}) {
            TriedLines t = Check.told(Look.head(1, 1, 1, rule, 1)
                + ";core;begin;get 0;end;core;begin;get 1;end;core;begin;end");
            Check.steps(t, "20011", "11313");
            Check.steps(t, "0", "1");
            Look.count(t, 2, 0, 0, 0, 1);
            Look.would(t, 1, 2, 0);
            Check.steps(t, "1001", "2111");
            Check.due("lock()", t.lock(), 1);
            Look.core(t, 0, -2, 0, 0, 0, 0, -2);
        }
    }

    private static void leastUsed() {
        TriedLines t = Check.told(Look.head(1, 3, 1, "wins", 2)
            + ";core;begin;get 0;get 1;end;begin;get 0;end;begin;get 2;get 3;put 4;end;begin;put 5;end");
        Check.steps(t, "000000", "111111");
        Look.place(t, 0, 0, 1, 0, 2, 1, 0, 6);
        Look.place(t, 0, 0, 2, 1, 2, 0, 0, 3);
        Check.steps(t, "000", "111");
        Look.place(t, 0, 0, 2, 2, 2, 1, 0, 9);
        Check.steps(t, "0", "1");
        Look.place(t, 0, 0, 1, 3, 2, 1, 0, 10);
        Check.steps(t, "0", "3");
        // USED like: the first; READ marks gone, all three of the TRY stay
        Look.place(t, 0, 0, 0, 16, 2, 0, 0, 8);
        Look.place(t, 0, 0, 1, 3, 2, 0, 0, 10);
        Look.place(t, 0, 0, 2, 2, 2, 0, 0, 9);
        Check.steps(t, "00000", "11111");
        Look.place(t, 0, 0, 0, 4, 3, 0, 0, 15);
        Check.due("the LOCK's LINE was written", t.traffic(1), 1);
        Check.due("traffic(0)", t.traffic(0), 6);
    }

    private static void sets() {
        TriedLines t = Check.told(Look.head(4, 1, 2, "wins", 2) + ";core;begin;get 2;get 5;get 15;put 8;end");
        Check.steps(t, "0000", "1111");
        Look.place(t, 0, 0, 0, 16, 2, 1);
        Look.place(t, 0, 1, 0, 1, 2, 1);
        Look.place(t, 0, 2, 0, 2, 2, 1);
        Look.place(t, 0, 3, 0, 7, 2, 1);
        Check.due("reads", t.reads(0), 1 << 16 | 1 << 1 | 1 << 2 | 1 << 7);
        Check.steps(t, "0", "3");
        Check.due("LINE 4 is in the SET of the LOCK's", t.count(0, 1), 1);
    }

    private static void interrupts() {
        TriedLines t = Check.told(Look.head(1, 4, 1, "wins", 2) + ";core;mark;begin;plus 4;mark;get 1;put 0;end");
        Check.refused(t, "interrupt OUT", t.interrupt(0), 5);
        Check.steps(t, "000000", "111111");
        Check.due("interrupt(0)", t.interrupt(0), 1);
        Look.core(t, 0, 1, 0, 0, 0, 0, 2, 7);
        Look.count(t, 0, 0, 0, 1, 0, 0, 0, 0);
        Check.due("no TIME", t.about(7), 6);
        Check.due("reads", t.reads(0), 0);
        Check.due("sharers(1)", t.sharers(1), 1);
        Check.due("sharers(0)", t.sharers(0), 0);
        Check.refused(t, "interrupt again", t.interrupt(0), 5);
        Check.steps(t, "0", "1");
        Check.due("AGE stays", t.core(0, 5), 2);
    }

    private static void advices() {
        TriedLines t = Check.told(Look.head(1, 4, 1, "wins", 2) + ";core;begin;put 0;end;core;begin;put 0;end;core");
        Check.refused(t, "advice OUT", t.advice(0, 0), 5);
        Check.refused(t, "advice by 4, OUT", t.advice(0, 4), 2);
        Check.refused(t, "advice of no core by 4", t.advice(3, 4), 1);
        Check.refused(t, "advice by -1", t.advice(0, -1), 2);
        Check.steps(t, "00", "11");
        int[] first = {0, 1, 0, 0};
        for (int cause = 0; cause < 4; cause++) {
            Check.due("advice(0, " + cause + ")", t.advice(0, cause), first[cause]);
        }
        Check.due("trouble()", t.trouble(), 0);
        Check.steps(t, "110", "111");
        int[] second = {1, 1, 0, 0};
        for (int cause = 0; cause < 4; cause++) {
            Check.due("advice(0, " + cause + ") with one LOST", t.advice(0, cause), second[cause]);
        }
        Check.due("advice() does nothing", t.core(0, 4), 1);
    }

    private static void rounds() {
        TriedLines t = Check.told(Look.head(1, 4, 1, "wins", 2) + ";core;mark;core;core;mark;mark;plus 1");
        Check.refused(t, "rounds(0)", t.rounds(0), 2);
        Check.refused(t, "rounds(201)", t.rounds(201), 2);
        Check.due("rounds(1)", t.rounds(1), 2);
        Check.due("core(2, 0)", t.core(2, 0), 1);
        Check.due("rounds(200)", t.rounds(200), 2);
        Check.due("trouble()", t.trouble(), 0);
        Check.due("about(7)", t.about(7), 4);
        Check.due("rounds(1) behind all", t.rounds(1), 0);
        // by numbers: the later core wins the LINE of the earlier one
        TriedLines u = Check.told(Look.head(1, 4, 1, "wins", 2) + ";core;begin;put 0;end;core;begin;put 0;end");
        Check.due("rounds(2)", u.rounds(2), 4);
        Look.count(u, 0, 1);
        Look.count(u, 1, 0);
        Check.due("core(1, 5)", u.core(1, 5), 2);
    }

    /** From SEED 1 the DRAWS are 152, 238, 78, 175, 15: mod 3 these are 2, 1, 0, 1, 0. */
    private static void draws() {
        TriedLines t = Check.told(Look.head(1, 4, 1, "wins", 2) + ";core;mark;mark;core;mark;mark;core;mark;mark");
        Check.due("draws(1, 1)", t.draws(1, 1), 1);
        Check.due("core(2, 0)", t.core(2, 0), 1);
        Check.due("draws(5, 1)", t.draws(5, 1), 5);
        Check.due("core(0, 0)", t.core(0, 0), -2);
        Check.due("core(1, 0)", t.core(1, 0), -2);
        Check.due("core(2, 0)", t.core(2, 0), -2);
        Check.due("about(7)", t.about(7), 6);
        TriedLines u = Check.told(Look.head(1, 4, 1, "wins", 2) + ";core;mark;core;mark;mark;core");
        Check.due("draws(5, 1) with two of nothing", u.draws(5, 1), 3);
        Check.due("about(7) then", u.about(7), 3);
        Check.due("draws(1000, 65535)", u.draws(1000, 65535), 0);
        Check.refused(t, "draws(0, 0)", t.draws(0, 0), 2);
        Check.refused(t, "draws(1001, 0)", t.draws(1001, 0), 2);
        Check.refused(t, "draws(1, -1)", t.draws(1, -1), 2);
        Check.refused(t, "draws(1, 65536)", t.draws(1, 65536), 2);
    }

    private static void alone() {
        TriedLines t = Check.told(Look.head(1, 1, 1, "wins", 2) + ";word 0 1;core;plus 50;begin;get 0;plus 1;put 0;end"
            + ";core;begin;get 0;mark;put 0 x;plus 3;put 0;end;core;begin;put 2;end");
        // 0, 1, 2: 2, then 2 at address 2 and 5, then 0 at address 2
        Check.due("alone(0, 0)", t.alone(0, 0), 5);
        Check.due("alone(0, 2)", t.alone(0, 2), 0);
        // 1, 2, 0: 1 at address 1 and 4, then 0 at address 2, then 5
        Check.due("alone(1, 0)", t.alone(1, 0), 5);
        Check.due("alone(1, 1)", t.alone(1, 1), 1);
        Check.due("alone(1, 2)", t.alone(1, 2), 0);
        // 2, 0, 1: 0 at address 2, then 2, then 2 at address 2 and 5
        Check.due("alone(2, 2)", t.alone(2, 2), 2);
        Check.due("alone(2, 1)", t.alone(2, 1), 0);
        Check.due("nothing is done", t.about(7), 0);
        Check.due("word(0)", t.word(0), 1);
        // all DEEDS, behind the first end, too; A and X are 0 at each begin
        TriedLines u = Check.told(Look.head(1, 4, 1, "wins", 2) + ";core;begin;plus 3;mark;put 1;end;less 2;mark"
            + ";begin;put 2 x;get 1 x;less 5;put 4;end");
        Check.due("alone(0, 1)", u.alone(0, 1), 3);
        Check.due("alone(0, 4)", u.alone(0, 4), 998);
        u.rounds(20);
        Check.due("serial(4)", u.serial(4), 998);
        Check.due("word(4)", u.word(4), 998);
        Check.due("agrees()", u.agrees(), 1);
    }

    private static void refusals() {
        TriedLines t = Check.told(Look.head(2, 3, 1, "wins", 2) + ";core;begin;put 0;end;core");
        t.rounds(5);
        int[] addresses = {-1, 16, 64, Integer.MAX_VALUE, Integer.MIN_VALUE};
        for (int a : addresses) {
            Check.refused(t, "word(" + a + ")", t.word(a), 1);
            Check.refused(t, "memory(" + a + ")", t.memory(a), 1);
            Check.refused(t, "serial(" + a + ")", t.serial(a), 1);
            Check.refused(t, "alone(0, " + a + ")", t.alone(0, a), 1);
            Check.refused(t, "cached(0, " + a + ")", t.cached(0, a), 1);
        }
        int[] cores = {-1, 2, 4, Integer.MAX_VALUE, Integer.MIN_VALUE};
        for (int c : cores) {
            Check.refused(t, "alone(" + c + ", 0)", t.alone(c, 0), 1);
            Check.refused(t, "place(" + c + ", 0, 0, 0)", t.place(c, 0, 0, 0), 1);
            Check.refused(t, "cached(" + c + ", 0)", t.cached(c, 0), 1);
            Check.refused(t, "reads(" + c + ")", t.reads(c), 1);
            Check.refused(t, "writes(" + c + ")", t.writes(c), 1);
            Check.refused(t, "core(" + c + ", 0)", t.core(c, 0), 1);
            Check.refused(t, "count(" + c + ", 0)", t.count(c, 0), 1);
            Check.refused(t, "advice(" + c + ", 0)", t.advice(c, 0), 1);
            Check.refused(t, "would(" + c + ")", t.would(c), 1);
            Check.refused(t, "wouldEnd(" + c + ")", t.wouldEnd(c), 1);
            Check.refused(t, "step(" + c + ")", t.step(c), 1);
            Check.refused(t, "interrupt(" + c + ")", t.interrupt(c), 1);
            Check.refused(t, "waysFor(" + c + ")", t.waysFor(c), 1);
        }
        Check.refused(t, "place(0, 2, 0, 0)", t.place(0, 2, 0, 0), 1);
        Check.refused(t, "place(0, -1, 0, 0)", t.place(0, -1, 0, 0), 1);
        Check.refused(t, "place(0, 0, 3, 0)", t.place(0, 0, 3, 0), 1);
        Check.refused(t, "place(0, 0, -1, 0)", t.place(0, 0, -1, 0), 1);
        Check.refused(t, "place(0, 0, 0, 5)", t.place(0, 0, 0, 5), 1);
        Check.refused(t, "place(0, 0, 0, -1)", t.place(0, 0, 0, -1), 1);
        Check.refused(t, "sharers(-1)", t.sharers(-1), 1);
        Check.refused(t, "sharers(17)", t.sharers(17), 1);
        Check.refused(t, "traffic(-1)", t.traffic(-1), 1);
        Check.refused(t, "traffic(3)", t.traffic(3), 1);
        Check.refused(t, "core(0, 7)", t.core(0, 7), 1);
        Check.refused(t, "core(0, -1)", t.core(0, -1), 1);
        Check.refused(t, "count(0, 7)", t.count(0, 7), 1);
        Check.refused(t, "count(0, -1)", t.count(0, -1), 1);
        Check.refused(t, "commit(1, 0)", t.commit(1, 0), 1);
        Check.refused(t, "commit(-1, 0)", t.commit(-1, 0), 1);
        Check.refused(t, "commit(0, 4)", t.commit(0, 4), 1);
        Check.refused(t, "commit(0, -1)", t.commit(0, -1), 1);
        Check.due("commit(0, 2)", t.commit(0, 2), 3);
        Check.due("trouble() then", t.trouble(), 0);
        TriedLines u = new TriedLines();
        Check.refused(u, "agrees() without a MACHINE", u.agrees(), 1);
        Check.refused(u, "lock() without a MACHINE", u.lock(), 1);
        Check.refused(u, "traffic(0) without a MACHINE", u.traffic(0), 1);
        Check.refused(u, "rounds(0) without a MACHINE", u.rounds(0), 1);
        Check.refused(u, "draws(0, -1) without a MACHINE", u.draws(0, -1), 1);
        Check.refused(u, "interrupt(0) without a MACHINE", u.interrupt(0), 1);
    }
}
