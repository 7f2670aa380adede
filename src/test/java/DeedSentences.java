/** Terms III, sentence by sentence: STEPS, DEEDS, how TRIES END, COMMITS, IN TURN, BY A SEED. */
final class DeedSentences {
    private static final int LOCK = 1 << 16;
    private static final String[] RULES = {"wins", "age", "yields"};

    private DeedSentences() {
    }

    static void all() {
        atFirst();
        threeStates();
        stepsTakeTime();
        beginsTry();
        beginsWithLock();
        triesAtLeast();
        lockEndsTries();
        beginSetsBack();
        ageOnce();
        getByAddress();
        addressByX();
        getMarks();
        putOwns();
        putSaves();
        putMarks();
        plusAndLess();
        markSetsX();
        endCommits();
        endLetsGo();
        nextDeed();
        endedLines();
        endedCore();
        endedLost();
        ageStays();
        commitsInOrder();
        serialWords();
        inTurn();
        bySeed();
        bySeedNothing();
        seedAndDraw();
    }

    private static String head(int sets, int ways, int words, String rule, int tries) {
        return Look.head(sets, ways, words, rule, tries);
    }

    private static TriedLines one(String deeds) {
        return Check.told(head(1, 4, 1, "wins", 2) + ";core;" + deeds);
    }

    private static void atFirst() {
        Document.says("III", "Each core has A, X (0 at first), its next DEED, LOST (0 at first);");
        TriedLines t = Check.told(head(1, 4, 1, "wins", 2) + ";word 0 5;core;mark;core;core;begin;end;core;plus 1");
        for (int c = 0; c < 4; c++) {
            Look.core(t, c, c == 1 ? -2 : 0, 0, 0, 0, 0, -2);
        }
        Check.steps(t, "3", "1");
        Look.core(t, 3, -2, 1, 0);
        Look.core(t, 0, 0, 0, 0);
    }

    private static void threeStates() {
        Document.says("III", "it is OUT, in a TRY, or has the LOCK.");
        TriedLines t = Check.told(head(1, 1, 1, "wins", 2) + ";core;begin;end;mark;begin;get 0;end;mark");
        int[] states = {1, 0, 0, 1, 0, 2, 2, 0, 0};
        Check.due("at first", t.core(0, 3), 0);
        for (int i = 0; i < states.length; i++) {
            t.step(0);
            Check.due("behind STEP " + (i + 1), t.core(0, 3), states[i]);
            Check.due("lock()", t.lock(), states[i] == 2 ? 0 : -2);
        }
    }

    private static void stepsTakeTime() {
        Document.says("III", "A STEP of a core that has DEEDS left: TIME is 1 more (at first 0), then its next DEED:");
        TriedLines t = Check.told(head(1, 2, 1, "age", 2) + ";core;begin;get 0;get 1;end;core;begin;put 0;end;core");
        Check.due("at first", t.about(7), 0);
        Check.steps(t, "0", "1");
        Check.due("a begin", t.about(7), 1);
        Check.due("its AGE", t.core(0, 5), 1);
        Check.steps(t, "01", "11");
        Check.due("a get, a begin", t.about(7), 3);
        Check.steps(t, "1", "2");
        Check.due("one that WAITS", t.about(7), 4);
        Check.steps(t, "0", "3");
        Check.due("one whose TRY ENDS", t.about(7), 5);
        Check.steps(t, "2", "0");
        Check.due("one without DEEDS", t.about(7), 5);
    }

    private static void beginsTry() {
        Document.says("III", "begin: if LOST is less than TRIES: if some core has the LOCK it WAITS;");
        TriedLines t = Check.told(head(1, 1, 1, "wins", 2)
            + ";core;begin;get 0;end;core;plus 3;begin;end;core;begin;end");
        Check.steps(t, "0010", "1311");
        Look.would(t, 1, 2, 0);
        String before = Look.state(t);
        Check.steps(t, "12", "22");
        Check.due("state", Look.state(t), before);
        Look.core(t, 1, 1, 3, 0, 0, 0, -2);
        Look.count(t, 1, 0, 0, 0, 0, 0, 0, 1);
        Check.steps(t, "0012", "1111");
        Document.says("III", "else TO SEE the LOCK's LINE, with a READ mark: a TRY begins;");
        // core 0 had it CHANGED: it was written, and is SHARED by 1 and 2
        Look.place(t, 1, 0, 0, 16, 1, 1, 0, 9);
        Look.core(t, 1, 2, 0, 0, 1);
        Check.due("reads", t.reads(1), LOCK);
        Check.due("writes", t.writes(1), 0);
        Check.due("sharers(16)", t.sharers(16), 6);
        TriedLines u = one("begin;end");
        Check.steps(u, "0", "1");
        Look.place(u, 0, 0, 0, 16, 2, 1, 0, 1);
        Check.due("lock()", u.lock(), -2);
        Look.traffic(u, 1, 0, 0);
    }

    /** With a core that has the LOCK, and others whose TRIES were LOST by CAPACITY. */
    private static void beginsWithLock() {
        Document.says("III", "if LOST is TRIES at least: if some other core has the LOCK it WAITS;");
        TriedLines t = Check.told(head(1, 1, 1, "wins", 9) + ";core;begin;get 0;end".repeat(2));
        Check.steps(t, "0011", "1313");
        Check.due("LOST of 0", t.core(0, 4), 9);
        Check.due("LOST of 1", t.core(1, 4), 9);
        Check.steps(t, "1", "1");
        String before = Look.state(t);
        Look.would(t, 0, 2, 0);
        Check.steps(t, "0", "2");
        Check.due("state", Look.state(t), before);
        Document.says("III", "else TO OWN the LOCK's LINE,");
        Check.steps(t, "11", "11");
        Check.due("lock()", t.lock(), -2);
        Check.steps(t, "0", "1");
        Look.place(t, 0, 0, 0, 16, 3, 0, 0, 9);
        Check.due("sharers(16)", t.sharers(16), 1);
        Check.due("lock()", t.lock(), 0);
    }

    private static void triesAtLeast() {
        Document.says("III", "if LOST is less than TRIES", "if LOST is TRIES at least");
        for (int tries = 1; tries <= 9; tries++) {
            TriedLines t = Check.told(head(1, 4, 1, "yields", tries)
                + ";core;begin;put 0;mark;end;core;begin;put 0;end");
            Check.steps(t, "00", "11");
            for (int lost = 0; lost < tries; lost++) {
                Check.due("LOST", t.core(1, 4), lost);
                Check.steps(t, "1", "1");
                Check.due("a TRY", t.core(1, 3), 1);
                Check.due("advice", t.advice(1, 0), lost + 1 == tries ? 1 : 0);
                Check.steps(t, "1", "3");
            }
            Check.due("LOST", t.core(1, 4), tries);
            Check.steps(t, "1", "1");
            Check.due("the LOCK", t.core(1, 3), 2);
            Check.due("LOST stays", t.core(1, 4), tries);
        }
    }

    private static void lockEndsTries() {
        Document.says("III", "but whatever the RULE all TRIES that have it marked END by LOCK: it has the LOCK.");
        for (String rule : RULES) {
            // core 1 is older than 2 and 3, younger than 0; core 3 is OUT but has the LINE
            TriedLines t = Check.told(head(1, 2, 1, rule, 9) + ";core;begin;put 0;end;core;begin;get 1;get 2;end"
                + ";core;begin;put 3;end;core;begin;end");
            Check.steps(t, "001122331", "111111113");
            Check.due("sharers(16)", t.sharers(16), 15);
            Look.would(t, 1, 1, 5);
            Check.steps(t, "1", "1");
            Check.due("lock()", t.lock(), 1);
            for (int c = 0; c < 3; c += 2) {
                Look.count(t, c, 0, 0, 0, 1, 0, 0, 0);
                Look.core(t, c, 0, 0, 0, 0, 0);
                Check.due("its LINES", t.writes(c) + t.reads(c), 0);
            }
            Look.count(t, 3, 0, 0, 0, 0, 1, 0, 0);
            Check.due("sharers(16)", t.sharers(16), 2);
            Check.due("traffic(2)", t.traffic(2), 3);
            Look.core(t, 1, 1, 0, 0, 2);
        }
    }

    private static void beginSetsBack() {
        Document.says("III", "A and X are 0.");
        TriedLines t = one("plus 7;mark;begin;end");
        Check.steps(t, "00", "11");
        Look.core(t, 0, 2, 7, 7);
        Check.steps(t, "0", "1");
        Look.core(t, 0, 3, 0, 0, 1);
        // with the LOCK, too: the TRY that ENDED had set them back, so they are 0 either way
        TriedLines u = Check.told(head(1, 1, 1, "wins", 2) + ";core;plus 7;mark;begin;plus 8;mark;get 0;end");
        Check.steps(u, "0000000", "1111131");
        Look.core(u, 0, 3, 0, 0, 2);
    }

    private static void ageOnce() {
        Document.says("III", "Its AGE is TIME, if it has none.");
        TriedLines t = one("mark;begin;mark;end;mark;begin;end");
        int[] ages = {-2, 2, 2, -2, -2, 6, -2};
        for (int age : ages) {
            Check.steps(t, "0", "1");
            Check.due("AGE", t.core(0, 5), age);
        }
        // one that has an AGE keeps it, with the LOCK, too
        TriedLines u = Check.told(head(1, 1, 1, "wins", 2) + ";core;mark;begin;get 0;end");
        Check.steps(u, "000", "113");
        Check.due("AGE stays", u.core(0, 5), 2);
        Check.steps(u, "0", "1");
        Check.due("AGE with the LOCK", u.core(0, 5), 2);
        TriedLines v = one("begin;mark;end");
        Check.steps(v, "00", "11");
        v.interrupt(0);
        Check.steps(v, "0", "1");
        Check.due("AGE of the TRY begun again", v.core(0, 5), 1);
    }

    private static void getByAddress() {
        Document.says("III", "get: TO SEE the LINE of the ADDRESS");
        TriedLines t = Check.told(head(1, 4, 2, "wins", 2) + ";word 4 1;word 5 2;core;begin;get 5;get 4;end");
        Check.steps(t, "00", "11");
        Look.place(t, 0, 0, 1, 2, 2);
        Check.due("A", t.core(0, 1), 2);
        Check.steps(t, "0", "1");
        Check.due("A", t.core(0, 1), 1);
        Document.says("III", "A is the word.");
        // its own word of a LINE that it has put, not MEMORY's
        TriedLines u = Check.told(head(1, 4, 1, "wins", 2) + ";word 0 5;core;begin;plus 9;put 0;plus 1;get 0;end");
        Check.steps(u, "00000", "11111");
        Check.due("A", u.core(0, 1), 9);
    }

    private static void addressByX() {
        Document.says("III", "(with x: ADDRESS and X, mod all ADDRESSES);");
        int[][] cases = {{1, 15, 0, 15}, {1, 15, 1, 0}, {1, 0, 16, 0}, {1, 15, 999, 6}, {2, 31, 1, 0}, {2, 30, 1, 31},
            {2, 5, 999, 12}, {4, 63, 1, 0}, {4, 63, 999, 38}, {4, 0, 63, 63}, {4, 0, 64, 0}};
        for (int[] each : cases) {
            String told = ";word " + each[3] + " 77;core;begin;plus " + each[2] + ";mark;";
            TriedLines t = Check.told(head(1, 4, each[0], "wins", 2) + told + "get " + each[1] + " x;end");
            Check.steps(t, "0000", "1111");
            Check.due("A of " + each[1] + " and " + each[2] + " by " + each[0], t.core(0, 1), 77);
            Check.due("reads", t.reads(0), LOCK | 1 << each[3] / each[0]);
            TriedLines u = Check.told(head(1, 4, each[0], "wins", 2) + told + "put " + each[1] + " x;end");
            Check.steps(u, "00000", "11111");
            Check.due("put of " + each[1] + " and " + each[2] + " by " + each[0], u.word(each[3]), each[2]);
            Check.due("serial", u.serial(each[3]), each[2]);
            Check.due("alone", u.alone(0, each[3]), each[2]);
        }
        // without x X is no matter
        TriedLines t = one("begin;plus 3;mark;get 2;put 4;end");
        Check.steps(t, "00000", "11111");
        Check.due("reads", t.reads(0), LOCK | 4);
        Check.due("writes", t.writes(0), 16);
    }

    private static void getMarks() {
        Document.says("III", "in a TRY: a READ mark;");
        TriedLines t = one("begin;get 3;end");
        Check.steps(t, "00", "11");
        Look.place(t, 0, 0, 1, 3, 2, 1, 0);
        TriedLines u = Check.told(head(1, 1, 1, "wins", 2) + ";core;begin;get 3;end");
        Check.steps(u, "0000", "1311");
        Look.place(u, 0, 0, 0, 3, 2, 0, 0);
    }

    private static void putOwns() {
        Document.says("III", "put: TO OWN it likewise;");
        TriedLines t = Check.told(head(1, 4, 2, "wins", 2)
            + ";core;begin;get 7;end;core;begin;plus 1;mark;put 6 x;end");
        Check.steps(t, "0001111", "1111111");
        Look.place(t, 1, 0, 1, 3, 3, 0, 1, 7);
        Check.due("sharers(3)", t.sharers(3), 2);
        Check.due("cached(1, 7)", t.cached(1, 7), 1);
        Check.due("cached(1, 6)", t.cached(1, 6), 0);
    }

    private static void putSaves() {
        Document.says("III",
            "in a TRY, if it has no WRITE mark and was CHANGED ahead of this: it is written to MEMORY;");
        TriedLines t = Check.told(head(1, 2, 2, "wins", 2)
            + ";core;begin;plus 5;put 0;end;begin;plus 9;put 1;put 0;end;begin;get 0;get 2;put 0;end");
        Check.steps(t, "0000", "1111");
        Look.traffic(t, 2, 0);
        Check.steps(t, "000", "111");
        Look.traffic(t, 2, 1);
        Check.due("memory(0), as it was ahead", t.memory(0), 5);
        Check.due("memory(1), as it was ahead", t.memory(1), 0);
        Check.steps(t, "0", "1");
        Look.traffic(t, 2, 1);
        Check.due("memory(0) behind a WRITE mark", t.memory(0), 5);
        // with the LOCK it is not written
        Check.steps(t, "0000", "1113");
        Check.steps(t, "00", "11");
        int written = t.traffic(1);
        Look.place(t, 0, 0, 1, 0, 3);
        Check.steps(t, "00", "11");
        Check.due("traffic(1): the LOCK's LINE alone", t.traffic(1), written + 1);
        // not CHANGED ahead: ALONE, SHARED, not there
        TriedLines u = Check.told(head(1, 4, 1, "wins", 2)
            + ";core;begin;get 0;put 0;put 1;end;core;begin;get 0;put 0;end");
        Check.steps(u, "00001", "11111");
        Check.due("traffic(1)", u.traffic(1), 0);
        TriedLines v = Check.told(head(1, 4, 1, "wins", 2) + ";core;begin;get 0;end;core;begin;get 0;put 0;end");
        Check.steps(v, "000111", "111111");
        Check.due("traffic(1) of one SHARED", v.traffic(1), 0);
    }

    private static void putMarks() {
        Document.says("III", "then a WRITE mark; the word is A.");
        TriedLines t = Check.told(head(1, 4, 2, "wins", 2)
            + ";word 0 7;word 1 8;core;begin;plus 3;put 1;plus 1;put 0;end");
        Check.steps(t, "000", "111");
        Look.place(t, 0, 0, 1, 0, 3, 0, 1);
        Check.due("cached", t.cached(0, 0) * 1000 + t.cached(0, 1), 7003);
        Check.steps(t, "00", "11");
        Check.due("cached", t.cached(0, 0) * 1000 + t.cached(0, 1), 4003);
        Check.due("A stays", t.core(0, 1), 4);
        // with the LOCK no mark: the word is there for all to see at once
        TriedLines u = Check.told(head(1, 1, 1, "wins", 2) + ";core;begin;plus 3;put 0;end");
        Check.steps(u, "000000", "113111");
        Look.place(u, 0, 0, 0, 0, 3, 0, 0);
        Check.due("word(0)", u.word(0), 3);
    }

    private static void plusAndLess() {
        Document.says("III", "plus, less: A is that much more, less, mod 1000 (0 .. 999).");
        TriedLines t = one("plus 0;less 0;plus 999;plus 1;less 1;plus 999;less 999;plus 2;less 1;less 2"
            + ";less 999;less 999;plus 0");
        int[] as = {0, 0, 999, 0, 999, 998, 999, 1, 0, 998, 999, 0, 0};
        for (int i = 0; i < as.length; i++) {
            Check.steps(t, "0", "1");
            Check.due("A behind DEED " + i, t.core(0, 1), as[i]);
            Check.due("X", t.core(0, 2), 0);
        }
        // gone through again, and alone, likewise
        TriedLines u = one("begin;less 1;put 0;plus 2;put 1;less 999;less 999;put 2;end");
        Check.steps(u, "000000000", "111111111");
        int[] words = {999, 1, 3};
        for (int a = 0; a < 3; a++) {
            Check.due("word(" + a + ")", u.word(a), words[a]);
            Check.due("serial(" + a + ")", u.serial(a), words[a]);
            Check.due("alone(0, " + a + ")", u.alone(0, a), words[a]);
        }
    }

    private static void markSetsX() {
        Document.says("III", "mark: X is A.");
        TriedLines t = one("plus 5;mark;plus 6;mark;mark;begin;mark;plus 4;mark;less 4;mark;end");
        int[][] due = {{5, 0}, {5, 5}, {11, 5}, {11, 11}, {11, 11}, {0, 0}, {0, 0}, {4, 0}, {4, 4}, {0, 4}, {0, 0}, {0, 0}};
        for (int[] each : due) {
            Check.steps(t, "0", "1");
            Check.due("A", t.core(0, 1), each[0]);
            Check.due("X", t.core(0, 2), each[1]);
        }
    }

    private static void endCommits() {
        Document.says("III", "end: a TRY is COMMITTED: its marks are gone;");
        TriedLines t = one("begin;get 0;plus 2;put 1;mark;end");
        Check.steps(t, "000000", "111111");
        Check.due("marks", t.reads(0) + t.writes(0), 0);
        Look.place(t, 0, 0, 1, 0, 2, 0, 0, 2);
        Look.place(t, 0, 0, 2, 1, 3, 0, 0, 4);
        Check.due("COMMITS", t.about(8), 1);
        Check.due("word(1)", t.word(1), 2);
        Document.says("III", "LOST is 0, it has no AGE, it is OUT.");
        Look.core(t, 0, -2, 2, 2, 0, 0, -2);
        // LOST behind CONFLICTS, too
        TriedLines u = Check.told(head(1, 4, 1, "wins", 3) + ";core;begin;put 0;end;core;begin;get 0;end");
        Check.steps(u, "0011", "1111");
        Check.due("LOST", u.core(0, 4), 1);
        Check.steps(u, "1000", "1111");
        Look.core(u, 0, -2, 0, 0, 0, 0, -2);
    }

    private static void endLetsGo() {
        Document.says("III", "or the LOCK is let go.");
        TriedLines t = Check.told(head(1, 1, 1, "wins", 2) + ";core;begin;get 0;plus 4;end;core;begin;end");
        Check.steps(t, "0000", "1311");
        Check.steps(t, "10", "21");
        Check.due("lock()", t.lock(), 0);
        Check.steps(t, "0", "1");
        Check.due("lock()", t.lock(), -2);
        Look.core(t, 0, -2, 4, 0, 0, 0, -2);
        Check.steps(t, "11", "11");
    }

    private static void nextDeed() {
        Document.says("III", "The next DEED is the one behind it (but if it WAITS, or its TRY ENDED).");
        TriedLines t = Check.told(head(1, 2, 1, "age", 2)
            + ";core;mark;begin;get 0;get 1;end;core;mark;begin;put 0;end");
        int[][] due = {{0, 1, 1}, {0, 1, 2}, {0, 1, 3}, {1, 1, 1}, {1, 1, 2}, {1, 2, 2}, {0, 3, 1}, {0, 1, 2}, {1, 2, 1},
            {0, 1, 3}};
        for (int[] each : due) {
            Check.due("step(" + each[0] + ")", t.step(each[0]), each[1]);
            Check.due("its next DEED", t.core(each[0], 0), each[2]);
        }
    }

    private static void endedLines() {
        Document.says("III",
            "A TRY ENDS by a cause: LINES with its WRITE marks are gone from its CACHE, READ marks are gone,");
        TriedLines t = one("begin;get 0;get 1;put 1;put 2;end");
        Check.steps(t, "00000", "11111");
        t.interrupt(0);
        Look.place(t, 0, 0, 0, 16, 2, 0, 0, 1);
        Look.place(t, 0, 0, 1, 0, 2, 0, 0, 2);
        Look.place(t, 0, 0, 2, -2, 0, 0, 0, -2);
        Look.place(t, 0, 0, 3, -2, 0, 0, 0, -2);
        Check.due("marks", t.reads(0) + t.writes(0), 0);
        Look.traffic(t, 4, 0, 0);
        // what was committed ahead stays
        TriedLines u = one("begin;plus 6;put 0;end;begin;put 0;end");
        Check.steps(u, "000000", "111111");
        u.interrupt(0);
        Check.due("word(0)", u.word(0), 6);
        Check.due("memory(0)", u.memory(0), 6);
        Check.due("cached(0, 0)", u.cached(0, 0), -2);
        // by each other cause: CONFLICT, CAPACITY, LOCK
        TriedLines v = Check.told(head(1, 2, 1, "yields", 2) + ";core;begin;put 0;end;core;begin;put 1;get 2;end"
            + ";core;begin;put 0;end");
        Check.steps(v, "0022", "1113");
        Check.due("by CONFLICT", v.reads(2) + v.writes(2), 0);
        Check.steps(v, "111", "113");
        Check.due("by CAPACITY", v.reads(1) + v.writes(1), 0);
        Look.place(v, 1, 0, 1, -2, 0, 0, 0, -2);
        Check.steps(v, "1", "1");
        Check.due("by LOCK", v.reads(0) + v.writes(0), 0);
        Check.due("sharers(0)", v.sharers(0), 0);
    }

    private static void endedCore() {
        Document.says("III", "A and X are 0, the next DEED is its begin, it is OUT;");
        // by INTERRUPT, CAPACITY, CONFLICT (another's, its own), LOCK
        String first = ";core;begin;end;plus 1;begin;plus 5;mark;put 0;";
        TriedLines t = Check.told(head(1, 2, 1, "wins", 5) + first + "end");
        Check.steps(t, "0000000", "1111111");
        t.interrupt(0);
        Look.core(t, 0, 3, 0, 0, 0, 0, 4);
        t = Check.told(head(1, 2, 1, "wins", 5) + first + "get 1;end");
        Check.steps(t, "00000000", "11111113");
        Look.core(t, 0, 3, 0, 0, 0, 5, 4);
        t = Check.told(head(1, 2, 1, "wins", 5) + first + "end;core;begin;get 0;end");
        Check.steps(t, "000000011", "111111111");
        Look.core(t, 0, 3, 0, 0, 0, 1, 4);
        t = Check.told(head(1, 2, 1, "yields", 5) + first + "end;core;begin;get 0;end");
        Check.steps(t, "110000000", "111111113");
        Look.core(t, 0, 3, 0, 0, 0, 1, 6);
        t = Check.told(head(1, 2, 1, "wins", 5) + first + "end;core;begin;get 1;get 2;end");
        Check.steps(t, "11100000001", "11311111111");
        Look.core(t, 0, 3, 0, 0, 0, 0, 7);
    }

    private static void endedLost() {
        Document.says("III", "by CONFLICT LOST is 1 more, by CAPACITY LOST is TRIES,");
        TriedLines t = Check.told(head(1, 3, 1, "yields", 5)
            + ";core;begin;put 0;end;core;begin;get 1;get 0;get 2;end");
        Check.steps(t, "00", "11");
        for (int lost = 1; lost <= 3; lost++) {
            Check.steps(t, "111", "113");
            Check.due("LOST by CONFLICT", t.core(1, 4), lost);
        }
        Check.steps(t, "0111", "1111");
        Check.due("LOST stays in a TRY", t.core(1, 4), 3);
        Check.steps(t, "1", "3");
        Check.due("LOST by CAPACITY", t.core(1, 4), 5);
        for (int tries = 1; tries <= 9; tries++) {
            TriedLines u = Check.told(head(1, 1, 1, "wins", tries) + ";core;begin;get 0;end");
            Check.steps(u, "00", "13");
            Check.due("LOST by CAPACITY", u.core(0, 4), tries);
        }
        // of a what if by its own TRIES: it takes the LOCK at once
        TriedLines v = Check.told(head(1, 1, 1, "wins", 1) + ";core;begin;get 0;end");
        Check.due("tried(0, 9, 0, 2)", v.tried(0, 9, 0, 2), 1);
        Check.due("tried(0, 9, 0, 0)", v.tried(0, 9, 0, 0), 5);
        Document.says("III", "by LOCK, INTERRUPT LOST stays.");
        TriedLines w = Check.told(head(1, 2, 1, "yields", 5)
            + ";core;begin;put 0;end;core;begin;get 0;end;core;begin;get 1;get 2;end");
        Check.steps(w, "00111", "11131");
        w.interrupt(1);
        Check.due("LOST by INTERRUPT", w.core(1, 4), 1);
        Check.steps(w, "12222", "11131");
        Check.due("LOST by LOCK", w.core(1, 4), 1);
        Check.due("LOST by LOCK", w.core(0, 4), 0);
        Look.count(w, 1, 1, 0, 1, 1);
    }

    private static void ageStays() {
        Document.says("III", "(AGE stays. Younger: of a greater AGE.)");
        TriedLines t = Check.told(head(1, 4, 1, "age", 5) + ";core;begin;put 0;mark;end;core;begin;get 0;end");
        Check.steps(t, "0011", "1112");
        t.interrupt(0);
        Check.due("AGE", t.core(0, 5), 1);
        // begun again later than core 1, core 0 is older still
        Check.steps(t, "1000", "1111");
        Check.due("the TRY of 1 ENDED", t.count(1, 0), 1);
        Check.due("AGE of 1", t.core(1, 5), 3);
        Check.steps(t, "11", "12");
        // behind its COMMIT and a new begin it is the younger one
        TriedLines u = Check.told(head(1, 4, 1, "age", 5) + ";core;begin;end;begin;put 0;end;core;begin;get 0;end");
        Check.steps(u, "010010", "111112");
        Check.due("AGES", u.core(0, 5) * 10 + u.core(1, 5), 42);
    }

    private static void commitsInOrder() {
        Document.says("III", "COMMITS: from begin to end, by TRIES or with the LOCK, in their order.");
        TriedLines t = Check.told(head(1, 2, 1, "wins", 5)
            + ";core;mark;begin;mark;end;core;begin;get 0;get 1;end;begin;end");
        // 0 begins first and ENDS by the LOCK, which 1 has
        Check.steps(t, "001111111", "111131111");
        Check.due("COMMITS", t.about(8), 1);
        Check.steps(t, "00101", "11111");
        Check.due("COMMITS", t.about(8), 3);
        Look.commit(t, 0, 1, 0, 9, 1);
        Look.commit(t, 1, 0, 1, 13, 0);
        Look.commit(t, 2, 1, 4, 14, 0);
        Check.refused(t, "commit(3, 0)", t.commit(3, 0), 1);
    }

    private static void serialWords() {
        Document.says("III",
            "THE SERIAL WORDS: from those told at first, COMMITS one behind the other, each with its DEEDS alone "
            + "(A, X 0 at begin).");
        String text = head(1, 4, 1, "wins", 5)
            + ";word 0 3;word 1 4;core;plus 9;mark;begin;get 0;plus 1;put 0;put 2 x;end"
            + ";core;begin;get 0;plus 1;mark;put 0;put 3 x;end";
        TriedLines t = Check.told(text);
        Check.due("serial(0), none committed", t.serial(0), 3);
        Check.due("serial(1), none committed", t.serial(1), 4);
        // first 0, then 1: 4 in 0 and 2; then 5 in 0 and 3 and 5
        Check.steps(t, "0000000", "1111111");
        Check.due("serial(0), not committed", t.serial(0), 3);
        Check.steps(t, "01111111", "11111111");
        int[] words = {5, 4, 4, 0, 0, 0, 0, 0, 5};
        serialIs(t, words);
        // first 1, then 0: 4 in 0 and 7; then 5 in 0 and 2
        t = Check.told(text);
        Check.steps(t, "111111100000000", "111111111111111");
        serialIs(t, new int[] {5, 4, 5, 0, 0, 0, 0, 4, 0});
        // of a core each COMMIT for itself, from its own begin to its own end
        t = Check.told(head(1, 4, 1, "wins", 5) + ";core;mark;core;plus 1;begin;plus 5;put 0;end;begin;plus 6;put 1;end");
        Check.steps(t, "11111", "11111");
        serialIs(t, new int[] {5, 0});
        Check.steps(t, "111", "111");
        Check.due("serial(1), not committed", t.serial(1), 0);
        Check.steps(t, "1", "1");
        serialIs(t, new int[] {5, 6});
    }

    private static void serialIs(TriedLines t, int[] words) {
        for (int a = 0; a < words.length; a++) {
            Check.due("serial(" + a + ")", t.serial(a), words[a]);
            Check.due("word(" + a + ")", t.word(a), words[a]);
        }
        Check.due("agrees()", t.agrees(), 1);
    }

    private static void inTurn() {
        Document.says("III", "IN TURN: rounds, in each each core with DEEDS left has a STEP, by numbers.");
        TriedLines t = Check.told(head(1, 4, 1, "wins", 5)
            + ";core;begin;mark;end;core;core;begin;end;core;begin;mark;mark;end");
        Check.due("rounds(1)", t.rounds(1), 3);
        Check.due("AGES", t.core(0, 5) * 100 + t.core(2, 5) * 10 + t.core(3, 5), 123);
        Check.due("rounds(1)", t.rounds(1), 3);
        Check.due("DEEDS", t.core(0, 0) * 10 + t.core(3, 0), 22);
        Check.due("core 2", t.core(2, 0), -2);
        Check.due("rounds(1)", t.rounds(1), 2);
        Check.due("rounds(1)", t.rounds(1), 1);
        Check.due("rounds(1)", t.rounds(1), 0);
        Check.due("TIME", t.about(7), 9);
        Look.commit(t, 0, 2, 0, 5, 0);
        Look.commit(t, 1, 0, 0, 7, 0);
        Look.commit(t, 2, 3, 0, 9, 0);
    }

    private static final String MARKS = ";core" + ";mark".repeat(9);

    private static void bySeed() {
        Document.says("III", "BY A SEED: each STEP is of a core DRAWN mod cores");
        // from SEED 1 the DRAWS are 152, 238, 78, 175, 15
        String[] drawn = {"00000", "00011", "21010", "02233"};
        for (int cores = 1; cores <= 4; cores++) {
            TriedLines t = Check.told(head(1, 4, 1, "wins", 5) + MARKS.repeat(cores));
            int[] next = new int[4];
            Check.due("draws(5, 1)", t.draws(5, 1), 5);
            for (char c : drawn[cores - 1].toCharArray()) {
                next[c - '0']++;
            }
            for (int c = 0; c < cores; c++) {
                Check.due("core(" + c + ", 0) of " + cores, t.core(c, 0), next[c]);
            }
        }
    }

    private static void bySeedNothing() {
        Document.says("III", "(one without DEEDS left: nothing, no TIME, but a draw):");
        // from SEED 1 by three cores: 2, 1, 0, 1, 0
        TriedLines t = Check.told(head(1, 4, 1, "wins", 5) + ";core;mark;core;core;mark");
        Check.due("draws(1, 1)", t.draws(1, 1), 1);
        TriedLines u = Check.told(head(1, 4, 1, "wins", 5) + ";core;mark;core;core;mark");
        Check.due("draws(2, 1)", u.draws(2, 1), 1);
        Check.due("TIME", u.about(7), 1);
        Check.due("core 0", u.core(0, 0), 0);
        TriedLines v = Check.told(head(1, 4, 1, "wins", 5) + ";core;mark;core;core;mark");
        Check.due("draws(3, 1)", v.draws(3, 1), 2);
        Check.due("TIME", v.about(7), 2);
        Check.due("core 0", v.core(0, 0), -2);
    }

    private static void seedAndDraw() {
        Document.says("III",
            "SEED becomes (25,173 times SEED and 13,849) mod 65,536, the DRAW is the SEED by 256, the lower WHOLE.");
        // SEED 0 becomes 13,849: 54; 1 39,022: 152; 2 64,195: 250; 65,535 54,212: 211; 32,768 46,617: 182
        int[][] first = {{0, 54}, {1, 152}, {2, 250}, {65535, 211}, {32768, 182}};
        for (int[] each : first) {
            for (int cores = 1; cores <= 4; cores++) {
                TriedLines t = Check.told(head(1, 4, 1, "wins", 5) + MARKS.repeat(cores));
                Check.due("draws(1, " + each[0] + ")", t.draws(1, each[0]), 1);
                Check.due("core of " + cores, t.core(each[1] % cores, 0), 1);
            }
        }
        String text = head(1, 4, 1, "wins", 5) + (";core" + ";mark".repeat(24)).repeat(3);
        for (int start : new int[] {0, 7, 4095, 4096, 30000, 65280, 65535}) {
            TriedLines t = Check.told(text);
            int[] next = new int[3];
            long seed = start;
            for (int i = 0; i < 24; i++) {
                seed = (25173L * seed + 13849) % 65536;
                next[(int) (seed / 256 % 3)]++;
            }
            Check.due("draws(24, " + start + ")", t.draws(24, start), 24);
            for (int c = 0; c < 3; c++) {
                Check.due("core(" + c + ", 0) from " + start, t.core(c, 0), next[c] == 24 ? -2 : next[c]);
            }
        }
    }
}
