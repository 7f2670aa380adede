/** Promises 30 to 38: what if, what is kept, what is told. */
public final class WhatIfTests {
    public static void main(String[] args) {
        tried();
        triedWithLock();
        triedFromTheBeginning();
        best();
        ways();
        keeping();
        done();
        sizes();
        troubles();
        Check.end("WhatIfTests");
    }

    private static final String TWO = ";core;begin;put 0;end;core;begin;plus 8;put 0;end";

    private static void all(TriedLines t, int rule, int tries, int seed, int... due) {
        for (int what = 0; what < due.length; what++) {
            String call = "tried(" + rule + ", " + tries + ", " + seed + ", " + what + ")";
            Check.due(call, t.tried(rule, tries, seed, what), due[what]);
        }
    }

    /**
     * From SEED 1 the DRAWS of two cores are 0, 0, 0, 1, 1, 1, 0, 1, 1, 1, 0: core 0 is done first, so
     * that by no RULE there is a CONFLICT.
     */
    private static void tried() {
        TriedLines t = Check.told(Look.head(1, 4, 1, "wins", 3) + TWO);
        for (int rule = 0; rule < 3; rule++) {
            all(t, rule, 9, 1, 7, 0, 0, 0, 0, 0);
            Check.due("triedWord(" + rule + ")", t.triedWord(rule, 9, 1, 0), 8);
        }
        Check.due("nothing is done", t.about(7) + t.traffic(0) + t.word(0), 0);
        Check.refused(t, "tried(-1, 1, 0, 0)", t.tried(-1, 1, 0, 0), 2);
        Check.refused(t, "tried(3, 1, 0, 0)", t.tried(3, 1, 0, 0), 2);
        Check.refused(t, "tried(0, 0, 0, 0)", t.tried(0, 0, 0, 0), 2);
        Check.refused(t, "tried(0, 10, 0, 0)", t.tried(0, 10, 0, 0), 2);
        Check.refused(t, "tried(0, 1, -1, 0)", t.tried(0, 1, -1, 0), 2);
        Check.refused(t, "tried(0, 1, 65536, 0)", t.tried(0, 1, 65536, 0), 2);
        Check.refused(t, "tried(3, 1, 0, 6)", t.tried(3, 1, 0, 6), 1);
        Check.refused(t, "tried(0, 1, 0, -1)", t.tried(0, 1, 0, -1), 1);
        Check.refused(t, "triedWord(3, 1, 0, 0)", t.triedWord(3, 1, 0, 0), 2);
        Check.refused(t, "triedWord(0, 0, 0, 0)", t.triedWord(0, 0, 0, 0), 2);
        Check.refused(t, "triedWord(0, 1, 65536, 0)", t.triedWord(0, 1, 65536, 0), 2);
        Check.refused(t, "triedWord(3, 1, 0, 16)", t.triedWord(3, 1, 0, 16), 1);
        Check.refused(t, "triedWord(0, 1, 0, -1)", t.triedWord(0, 1, 0, -1), 1);
    }

    /**
     * From SEED 1 the DRAWS of four cores are 0, 2, 2, 3, 3, 3, 2, ...; with core 0 empty: 2 begins,
     * 2 gets, 3 begins, 3 puts (a CONFLICT), 3 ends, then 2.
     */
    private static void triedWithLock() {
        String text = ";core;core;core;begin;get 0;end;core;begin;put 0;end";
        TriedLines t = Check.told(Look.head(1, 4, 1, "wins", 3) + text);
        all(t, 0, 2, 1, 8, 1, 0, 0, 0, 0);
        all(t, 0, 1, 1, 8, 1, 0, 0, 1, 0);
        // age: 3 WAITS for 2, twice, till 2 has ended
        all(t, 1, 2, 1, 8, 0, 0, 0, 0, 2);
        // yields: 3 begins, puts and ENDS, begins; 2 ends; then 3 puts, ends
        all(t, 2, 2, 1, 8, 1, 0, 0, 0, 0);
        TriedLines u = Check.told(Look.head(1, 1, 1, "wins", 3) + ";core;begin;get 0;end");
        all(u, 0, 3, 0, 5, 0, 1, 0, 1, 0);
        // DRAWS mod 2 from SEED 20: 0 0 0 0 1 1 0 ..: 0 begins, gets, ENDS by CAPACITY, has the LOCK; 1 WAITS,
        // WAITS; 0 gets; 1 WAITS, WAITS; 0 ends; 0, 0, 0 nothing; 1 begins, ends
        TriedLines v = Check.told(Look.head(1, 2, 1, "wins", 3) + ";core;begin;get 0;get 1;end;core;begin;end");
        all(v, 0, 3, 20, 13, 0, 1, 0, 1, 4);
        // from SEED 3: 1 1 0 1 0 1 0 0 1 0 1 0 1 0 1 0 ..: 1 begins, gets; 0 begins; 1 ENDS by CAPACITY; 0 marks;
        // 1 has the LOCK, so 0 ENDS, and WAITS four times; 1 gets, gets, ends; then 0 does its four
        all(Check.told(Look.head(1, 2, 1, "wins", 3) + ";core;begin;mark;mark;end;core;begin;get 0;get 1;end"), 0, 3, 3,
            17, 0, 1, 1, 1, 4);
        triedAfterAnother();
    }

    /** Each what if begins anew. */
    private static void triedAfterAnother() {
        TriedLines t = Check.told(Look.head(1, 4, 1, "wins", 3) + ";word 0 4;core;begin;get 0;plus 1;put 0;end");
        for (int i = 0; i < 3; i++) {
            Check.due("triedWord()", t.triedWord(0, 3, 5, 0), 5);
            Check.due("would()", t.would(0), 1);
            Check.due("triedWord() again", t.triedWord(0, 3, 5, 0), 5);
            Check.due("tried()", t.tried(0, 3, 5, 0), 5);
            Check.due("best()", t.best(5), 0);
        }
    }

    private static void triedFromTheBeginning() {
        TriedLines t = Check.told(Look.head(1, 4, 1, "wins", 3) + ";word 0 4;core;begin;get 0;plus 1;put 0;end");
        t.rounds(200);
        all(t, 0, 3, 77, 5, 0, 0, 0, 0, 0);
        Check.due("triedWord()", t.triedWord(0, 3, 77, 0), 5);
        Check.due("word(0)", t.word(0), 5);
        Check.due("about(7)", t.about(7), 5);
        all(Check.told(Look.head(1, 1, 1, "age", 2) + ";core"), 1, 1, 0, 0, 0, 0, 0, 0, 0);
    }

    private static void best() {
        String text = ";core;core;core;begin;get 0;end;core;begin;put 0;end";
        Check.due("best of like ones", Check.told(Look.head(1, 4, 1, "yields", 2) + text).best(1), 0);
        String longer = ";core;begin;get 0;get 0;put 1;end;core;begin;put 0;put 0;end";
        TriedLines t = Check.told(Look.head(1, 4, 1, "yields", 2) + longer);
        // DRAWS mod 2 from SEED 1: 0 0 0 1 1 1 0 1 ..: core 1 wins, core 0 does three STEPS again
        Check.due("best(1)", t.best(1), 0);
        Check.due("its STEPS", t.tried(0, 2, 1, 0), 12);
        // from SEED 20: 0 0 0 0 1 1 0 ..: core 1 WAITS once
        Check.due("best(20)", t.best(20), 1);
        Check.due("its STEPS", t.tried(1, 2, 20, 0), 10);
        Check.due("STEPS by wins", t.tried(0, 2, 20, 0), 13);
        Check.due("STEPS by yields", t.tried(2, 2, 20, 0), 11);
        // from SEED 29: 1 0 0 1 0 0 0 ..: core 1 yields and begins again when core 0 is done
        Check.due("best(29)", t.best(29), 2);
        Check.due("its STEPS", t.tried(2, 2, 29, 0), 11);
        Check.refused(t, "best(-1)", t.best(-1), 2);
        Check.refused(t, "best(65536)", t.best(65536), 2);
        TriedLines u = new TriedLines();
        Check.refused(u, "best(-1) without a MACHINE", u.best(-1), 1);
    }

    private static void ways() {
        String many = ";core;begin;get 0;get 1;put 2;put 1;end;begin;get 3;end;core;mark;core;begin;end";
        TriedLines t = Check.told(Look.head(1, 1, 1, "wins", 1) + many);
        Check.due("waysFor(0)", t.waysFor(0), 4);
        Check.due("waysFor without TRIES", t.waysFor(1), 1);
        Check.due("waysFor of a later TRY", Check.told(Look.head(1, 1, 1, "wins", 1)
            + ";core;begin;get 0;end;begin;get 0;get 1;end;begin;end").waysFor(0), 3);
        Check.due("waysFor of an empty TRY", t.waysFor(2), 1);
        Check.due("by two SETS", Check.told(Look.head(2, 1, 1, "wins", 1) + many).waysFor(0), 3);
        Check.due("by four SETS", Check.told(Look.head(4, 1, 1, "wins", 1) + many).waysFor(0), 2);
        Check.due("by LINES of two", Check.told(Look.head(1, 1, 2, "wins", 1) + many).waysFor(0), 3);
        StringBuilder all = new StringBuilder(Look.head(1, 4, 1, "age", 9) + ";core;begin");
        for (int a = 0; a < 16; a++) {
            all.append(";get ").append(a);
        }
        Check.due("all seventeen", Check.told(all + ";end").waysFor(0), 17);
        // the words told at first lead X: 5, then what the core itself has put
        TriedLines x = Check.told(Look.head(1, 1, 1, "wins", 1) + ";word 0 5;core;begin;get 0;mark;get 0 x;get 5;end"
            + ";core;begin;plus 6;put 0;end");
        x.step(1);
        x.step(1);
        x.step(1);
        Check.due("waysFor by the words told at first", x.waysFor(0), 3);
        Check.due("trouble()", x.trouble(), 0);
    }

    private static void keeping() {
        TriedLines t = new TriedLines();
        Check.due("keep() without a MACHINE", t.keep(), false);
        Check.due("its trouble()", t.trouble(), 1);
        Check.tell(t, Look.head(1, 2, 1, "wins", 2) + ";word 0 6;core;begin;get 0;plus 1;put 0;end;core;begin;put 0;put 1;end");
        Check.due("back() without what is kept", t.back(), false);
        Check.due("its trouble()", t.trouble(), 1);
        Check.steps(t, "000", "111");
        Check.due("keep()", t.keep(), true);
        Check.due("its trouble()", t.trouble(), 0);
        Check.steps(t, "0011111", "1111311");
        Check.due("traffic behind it", t.traffic(2) > 0, true);
        Check.due("lock() behind it", t.lock(), 1);
        for (int i = 0; i < 2; i++) {
            Check.due("back()", t.back(), true);
            Check.due("size(3)", t.size(3), 1);
            Check.due("trouble()", t.trouble(), 0);
            Check.due("about(7)", t.about(7), 3);
            Check.due("about(8)", t.about(8), 0);
            Check.due("core(0, 1)", t.core(0, 1), 7);
            Check.due("core(0, 3)", t.core(0, 3), 1);
            Check.due("core(1, 4)", t.core(1, 4), 0);
            Check.due("count(1, 1)", t.count(1, 1), 0);
            Check.due("word(0)", t.word(0), 6);
            Check.due("reads(0)", t.reads(0), 1 << 16 | 1);
            Check.due("sharers(16)", t.sharers(16), 1);
            Check.due("traffic(0)", t.traffic(0), 2);
            Check.due("traffic(2)", t.traffic(2), 0);
            Check.due("lock()", t.lock(), -2);
            Check.steps(t, "0", "1");
        }
        t.word(99);
        Check.due("back() behind a refusal", t.back(), true);
        Check.due("its trouble()", t.trouble(), 0);
        Check.steps(t, "0", "1");
        t.word(99);
        Check.due("keep() again", t.keep(), true);
        Check.due("its trouble()", t.trouble(), 0);
        Check.steps(t, "0", "1");
        t.back();
        Check.due("what was kept before is no more", t.about(7), 4);
        Check.due("writes(0)", t.writes(0), 1);
        Check.steps(t, "0", "1");
        Check.due("word(0)", t.word(0), 7);
        Check.due("agrees()", t.agrees(), 1);
    }

    private static void done() {
        TriedLines t = Check.told(Look.head(1, 2, 1, "wins", 2) + ";core;mark;core;core;mark;core");
        Check.due("done(0)", Check.done(t, 0), 1);
        Check.due("done(1)", Check.done(t, 1), 3);
        Check.due("done(2)", Check.done(t, 2), Check.THROWN);
        Check.due("done(-1)", Check.done(t, -1), Check.THROWN);
        t.word(99);
        t.step(2);
        t.word(99);
        Check.due("done(1) then", Check.done(t, 1), 2);
        Check.due("done(2) then", Check.done(t, 2), 3);
        Check.due("done(3) then", Check.done(t, 3), Check.THROWN);
        Check.due("done() leaves trouble()", t.trouble(), 1);
        t.step(0);
        Check.due("done(0) at last", Check.done(t, 0), 0);
        Check.due("done(3) at last", Check.done(t, 3), 3);
        Check.due("done(4) at last", Check.done(t, 4), Check.THROWN);
        Check.due("done(MIN)", Check.done(t, Integer.MIN_VALUE), Check.THROWN);
    }

    private static void sizes() {
        TriedLines t = Check.told(Look.head(1, 2, 1, "wins", 2) + ";word 3 0;word 9 1;core;mark;core;core;begin;end");
        Check.due("size(0)", t.size(0), 0);
        t.feed(0, 0, 0, 0, 0);
        Check.due("size(0)", t.size(0), 20);
        Check.due("size(1)", t.size(1), 2);
        Check.due("size(2)", t.size(2), 3);
        Check.due("size(3)", t.size(3), 0);
        t.keep();
        Check.due("size(3)", t.size(3), 1);
        Check.due("size(4)", t.size(4), -1);
        Check.due("size(-1)", t.size(-1), -1);
        Check.due("size() leaves trouble()", t.trouble(), 0);
    }

    private static void troubles() {
        TriedLines t = new TriedLines();
        Check.due("trouble() of a new one", t.trouble(), 0);
        t.step(0);
        Check.due("1", t.trouble(), 1);
        t.fault();
        t.where();
        t.size(9);
        t.feed(0, 0, 0, 0, 0);
        Check.done(t, 0);
        Check.due("1 still", t.trouble(), 1);
        t.machine(21);
        Check.due("2", t.trouble(), 2);
        t.machine(20);
        Check.due("4", t.trouble(), 4);
        Check.tell(t, Look.head(1, 2, 1, "wins", 2) + ";core");
        Check.due("0", t.trouble(), 0);
        t.interrupt(0);
        Check.due("5", t.trouble(), 5);
        t.keep();
        Check.due("0 again", t.trouble(), 0);
        Check.due("NONE", TriedLines.NONE, -1);
    }
}
