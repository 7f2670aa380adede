/** Promises 1 to 23, sentence by sentence: the machine, words, caches, cores. */
final class LookSentences {
    private static final int LOCK = 1 << 16;
    private static final int MIN = Integer.MIN_VALUE;
    private static final int MAX = Integer.MAX_VALUE;
    private static final String HEAD = Look.head(1, 1, 1, "wins", 1);

    private LookSentences() {
    }

    static void all() {
        newObject();
        feeding();
        feedingTooMuch();
        firstBytes();
        fromNowOn();
        refusedMachine();
        machineStays();
        fault();
        where();
        about();
        deed();
        words();
        agrees();
        lock();
        alone();
        place();
        cached();
        sharers();
        readsAndWrites();
        traffic();
        core();
        count();
        advice();
        commit();
    }

    private static String head(int sets, int ways, int words, String rule, int tries) {
        return Look.head(sets, ways, words, rule, tries);
    }

    private static void newObject() {
        Document.says("1", "No MACHINE.");
        TriedLines t = new TriedLines();
        for (int what = 0; what < 9; what++) {
            Check.due("about(" + what + ")", t.about(what), -1);
        }
        for (int what = 0; what < 4; what++) {
            Check.due("size(" + what + ")", t.size(what), 0);
        }
        Check.due("fault()", t.fault(), 0);
        Check.due("where()", t.where(), -1);
        Check.due("done(0)", Check.done(t, 0), Check.THROWN);
        Check.refused(t, "step(0)", t.step(0), 1);
        Check.due("keep()", t.keep(), false);
        // a text with a FAULT is none, either
        Check.tell(t, "machine");
        Check.refused(t, "about(5)", t.about(5), 1);
    }

    private static void feeding() {
        Document.says("2", "Twenty bytes come behind THE TAPE,");
        String text = Look.head(4, 3, 2, "yields", 7) + ";word 31 999;core;begin;get 31 x;end;less 5";
        TriedLines t = Check.good(text, 1);
        Check.due("the last DEED", t.deed(0, 3, 1), 5);
        Document.says("2", "of each number the highest first:");
        // "machine sets 1 ways 1 words 1 rule wins tries 1;core" and blanks
        TriedLines u = new TriedLines();
        u.feed(0x6d616368, 0x696e6520, 0x73657473, 0x20312077, 0x61797320);
        u.feed(0x3120776f, 0x72647320, 0x31207275, 0x6c652077, 0x696e7320);
        u.feed(0x74726965, 0x7320313b, 0x636f7265, 0x20202020, 0x20202020);
        Check.due("machine(60)", u.machine(60), 1);
        u.feed(0x3b202020, 0, 0, 0, 0);
        Check.due("a ; ahead", u.machine(20) * 10 + u.fault(), -9);
        u.feed(0x2020203b, 0, 0, 0, 0);
        Check.due("blanks ahead of ;", u.machine(4), -1);
        Check.due("where()", u.where(), 3);
        u.feed(0x20202020, 0x20202020, 0x20202020, 0x20202020, 0x20203b20);
        u.machine(20);
        Check.due("where() in the fifth number", u.where(), 18);
        u.feed(0xffffffff, -1, -1, -1, MIN);
        u.machine(20);
        Check.due("a byte of 255", u.fault() * 100 + u.where(), 100);
        Document.says("2", "how many it has;");
        TriedLines v = new TriedLines();
        for (int n = 20; n <= 900; n += 20) {
            Check.due("feed()", v.feed(0, MAX, MIN, -1, 1), n);
            Check.due("size(0)", v.size(0), n);
        }
    }

    private static void feedingTooMuch() {
        Document.says("2", "NONE, and none comes, if there would be more than 900.");
        String text = HEAD + ";core;plus 8";
        String full = text + " ".repeat(899 - text.length()) + "1";
        TriedLines t = new TriedLines();
        Check.due("880", Check.feed(t, full.substring(0, 880)), 880);
        Check.due("900", Check.feed(t, full.substring(880)), 900);
        for (int i = 0; i < 3; i++) {
            Check.due("more", t.feed(0x20202020, 0x20202020, 0x20202020, 0x20202020, 0x20202020), -1);
            Check.due("size(0)", t.size(0), 900);
        }
        Check.due("machine(901)", t.machine(901), -1);
        Check.due("trouble()", t.trouble(), 2);
        Check.due("machine(900)", t.machine(900), -1);
        Check.due("the last byte", t.where(), 899);
        Check.due("THE TAPE has room again", t.feed(0, 0, 0, 0, 0), 20);
    }

    private static void firstBytes() {
        Document.says("3", "The first n bytes of THE TAPE");
        String text = HEAD + ";core;plus 123;core";
        int[] lengths = {text.length(), text.length() - 5, text.length() - 6, text.length() - 7};
        int[] cores = {2, 1, 1, 1};
        int[] wholes = {123, 123, 12, 1};
        for (int i = 0; i < lengths.length; i++) {
            TriedLines t = new TriedLines();
            Check.feed(t, text);
            Check.due("machine(" + lengths[i] + ")", t.machine(lengths[i]), cores[i]);
            Check.due("its WHOLE", t.deed(0, 0, 1), wholes[i]);
        }
        TriedLines t = new TriedLines();
        Check.feed(t, text);
        Check.due("machine() up to the ;", t.machine(text.length() - 4), -1);
        Check.due("where()", t.where(), text.length() - 4);
        Document.says("3", "(it is empty then)");
        Check.due("behind a FAULT", t.size(0), 0);
        Check.feed(t, text);
        t.machine(text.length() - 5);
        Check.due("behind a MACHINE of a part", t.size(0), 0);
        Check.refused(t, "machine(1)", t.machine(1), 2);
        Check.due("feed()", t.feed(0, 0, 0, 0, 0), 20);
        Check.due("machine(0)", t.machine(0), -1);
        Check.due("behind machine(0)", t.size(0), 0);
        Document.says("3", "how many cores.");
        for (int n = 1; n <= 4; n++) {
            Check.good(HEAD + ";core".repeat(n), n);
        }
    }

    private static void fromNowOn() {
        Document.says("3", "are the MACHINE from now on");
        String text = head(2, 2, 2, "yields", 3) + ";word 1 9;core;begin;get 0;end;core;core";
        // the MACHINE ahead of it has the LOCK let go, TRIES with marks of both kinds, A, X, something kept
        TriedLines t = Check.told(head(1, 4, 1, "wins", 1) + ";word 0 5;word 2 7"
            + ";core;begin;get 2;mark;get 3;put 4;put 3;plus 9;end;core;begin;get 0;get 1;get 2;get 3;end;core;mark");
        Check.steps(t, "11111111111", "11113111111");
        Check.steps(t, "0000000", "1111111");
        t.keep();
        Check.due("a TRY with marks, A, X", t.writes(0) * 100 + t.core(0, 1) * 10 + t.core(0, 2), 2497);
        Check.due("machine()", Check.tell(t, text), 3);
        int[] about = {2, 2, 2, 2, 3, 3, 32};
        for (int what = 0; what < about.length; what++) {
            Check.due("about(" + what + ")", t.about(what), about[what]);
        }
        Check.due("words told", t.size(1), 1);
        Check.due("DEEDS", t.size(2), 3);
        Check.due("deed(0, 0, 0)", t.deed(0, 0, 0), 0);
        Check.refused(t, "deed(1, 0, 0)", t.deed(1, 0, 0), 1);
        Document.says("3", "(CACHES empty, TIME 0, nothing kept):");
        Check.due("TIME", t.about(7), 0);
        Check.due("state", Look.state(t), Look.state(Check.told(text)));
        Check.due("kept", t.size(3), 0);
        Check.due("back()", t.back(), false);
        Check.due("its trouble()", t.trouble(), 1);
        // the same text again
        t.rounds(2);
        t.keep();
        Check.tell(t, text);
        Check.due("state again", Look.state(t), Look.state(Check.told(text)));
        Check.due("kept again", t.size(3), 0);
    }

    private static void refusedMachine() {
        Document.says("3", "NONE: 2 (n; THE TAPE stays);");
        TriedLines t = new TriedLines();
        for (int n : new int[] {1, -1, 20, 900, MIN, MAX}) {
            Check.refused(t, "machine(" + n + ")", t.machine(n), 2);
        }
        String text = HEAD + ";core;mark; ";
        Check.feed(t, text);
        for (int n : new int[] {-1, 61, 80, 900, 901, MIN, MAX}) {
            Check.refused(t, "machine(" + n + ")", t.machine(n), 2);
            Check.due("size(0)", t.size(0), 60);
        }
        Check.due("machine(57)", t.machine(57), 1);
        // all of THE TAPE, and none of it, are numbers like others
        Check.feed(t, " ".repeat(7) + HEAD + ";core ");
        Check.due("machine(60)", t.machine(60), 1);
        Check.due("machine(0)", t.machine(0), -1);
        Check.due("its trouble()", t.trouble(), 4);
    }

    private static void machineStays() {
        Document.says("3", "4 (the MACHINE stays, as it is).");
        String[] faulty = {"machine sets 4 ways 4 words 4 rule age tries 9;word 0 9;core;core;core;core;plus",
            "machine sets 4 ways 4 words 4 rule age tries 9;word 0 9;core;begin;put 64", "machine sets 3",
            "machine sets 4 ways 4 words 4 rule age tries 9;word 0 9;word 0 8",
            "machine sets 4 ways 4 words 4 rule age tries 9;core;core;core;core;core",
            "core", "machine sets 4 ways 4 words 4 rule age tries 9;core;begin;put 0;begin", ""};
        TriedLines t = Check.told(head(1, 2, 1, "yields", 3)
            + ";word 0 5;core;begin;get 0;end;mark;core;begin;get 0;end");
        Check.steps(t, "011", "111");
        t.keep();
        Check.steps(t, "1", "1");
        String before = Look.state(t);
        for (String text : faulty) {
            Check.due("machine()", Check.tell(t, text), -1);
            Check.due("trouble()", t.trouble(), 4);
        }
        Check.due("state", Look.state(t), before);
        int[] about = {1, 2, 1, 2, 3, 2, 16, 4, 1};
        for (int what = 0; what < about.length; what++) {
            Check.due("about(" + what + ")", t.about(what), about[what]);
        }
        Check.due("words told, DEEDS, kept", t.size(1) * 100 + t.size(2) * 10 + t.size(3), 171);
        Check.due("deed(0, 3, 0)", t.deed(0, 3, 0), 2);
        Check.due("tried()", t.tried(0, 1, 0, 0), 7);
        Check.due("alone(0, 0)", t.alone(0, 0), 5);
        Check.due("step(0)", t.step(0), 1);
        Check.due("A", t.core(0, 1), 5);
        Check.due("back()", t.back(), true);
        Check.due("TIME", t.about(7), 3);
    }

    private static void fault() {
        Document.says("4", "The FAULT of the latest machine() not refused by 2;");
        String[] faulty = {"!", HEAD + ";word 16", HEAD + ";" + HEAD, HEAD + ";core".repeat(5), "core", HEAD + ";core;end"};
        TriedLines t = new TriedLines();
        for (int number = 1; number <= 6; number++) {
            Check.tell(t, faulty[number - 1]);
            Check.due("fault()", t.fault(), number);
            Check.due("fault() again", t.fault(), number);
            t.machine(-1);
            t.machine(1);
            t.step(0);
            t.feed(0, 0, 0, 0, 0);
            Check.due("fault() behind others", t.fault(), number);
            t.machine(0);
            Check.due("fault() of machine(0)", t.fault(), 1);
        }
        Document.says("4", "0 without one.");
        Check.due("fault() of a new one", new TriedLines().fault(), 0);
        Check.tell(t, HEAD + ";core");
        Check.due("fault() of a MACHINE", t.fault(), 0);
        t.machine(-1);
        Check.due("fault() behind a number", t.fault(), 0);
    }

    private static void where() {
        Document.says("5", "Its place, if the latest call that may be refused was by 4;");
        TriedLines t = new TriedLines();
        Check.tell(t, HEAD + ";core;end");
        for (int i = 0; i < 2; i++) {
            Check.due("where()", t.where(), HEAD.length() + 6);
        }
        // calls that may not be refused are no matter
        t.fault();
        t.size(0);
        t.size(9);
        t.trouble();
        Check.done(t, 0);
        t.feed(0, 0, 0, 0, 0);
        Check.due("where() behind these", t.where(), HEAD.length() + 6);
        Document.says("5", "NONE else.");
        Check.due("where() of a new one", new TriedLines().where(), -1);
        t.machine(-1);
        Check.due("where() behind 2", t.where(), -1);
        t.machine(0);
        Check.due("where() of another", t.where(), 0);
        t.about(0);
        Check.due("where() behind 1", t.where(), -1);
        Check.tell(t, HEAD + ";core");
        Check.due("where() of a MACHINE", t.where(), -1);
        t.machine(0);
        t.lock();
        Check.due("where() behind a call that was not refused", t.where(), -1);
        t.machine(0);
        t.interrupt(0);
        Check.due("where() behind 5", t.where(), -1);
    }

    private static void about() {
        Document.says("6", "0 SETS, 1 WAYS, 2 WORDS, 3 RULE (0 wins, 1 age, 2 yields), 4 TRIES, 5 cores, 6 ADDRESSES,");
        String[] rules = {"wins", "age", "yields"};
        int[][] told = {{1, 4, 2, 0, 9}, {2, 3, 4, 1, 5}, {4, 1, 1, 2, 1}};
        for (int[] each : told) {
            TriedLines t = Check.told(head(each[0], each[1], each[2], rules[each[3]], each[4])
                + ";core".repeat(each[1]));
            for (int what = 0; what < 5; what++) {
                Check.due("about(" + what + ")", t.about(what), each[what]);
            }
            Check.due("about(5)", t.about(5), each[1]);
            Check.due("about(6)", t.about(6), 16 * each[2]);
        }
        Document.says("6", "7 TIME, 8 COMMITS.");
        TriedLines t = Check.told(HEAD + ";core;begin;end;mark;begin;end");
        int[] commits = {0, 1, 1, 1, 2, 2};
        for (int i = 0; i < commits.length; i++) {
            t.step(0);
            Check.due("about(7)", t.about(7), Math.min(i + 1, 5));
            Check.due("about(8)", t.about(8), commits[i]);
        }
        Document.says("6", "NONE: 1 (no MACHINE; another what).");
        for (int what : new int[] {-1, 9, MIN, MAX}) {
            Check.refused(t, "about(" + what + ")", t.about(what), 1);
        }
        TriedLines none = new TriedLines();
        for (int what = -1; what < 10; what++) {
            Check.refused(none, "about(" + what + ") without a MACHINE", none.about(what), 1);
        }
    }

    private static void deed() {
        Document.says("7",
            "Of the i-th DEED of a core 0 its sort (0 begin, 1 end, 2 mark, 3 get, 4 put, 5 plus, 6 less),");
        TriedLines t = Check.told(HEAD
            + ";core;core;less 9;begin;get 15;put 4 x;mark;get 0 x;end;plus 999;plus 0;core;mark");
        int[] sorts = {6, 0, 3, 4, 2, 3, 1, 5, 5};
        int[] wholes = {9, -2, 15, 4, -2, 0, -2, 999, 0};
        int[] xs = {0, 0, 0, 1, 0, 1, 0, 0, 0};
        for (int i = 0; i < 9; i++) {
            Check.due("deed(1, " + i + ", 0)", t.deed(1, i, 0), sorts[i]);
        }
        Document.says("7", "1 its WHOLE (-2 without),");
        for (int i = 0; i < 9; i++) {
            Check.due("deed(1, " + i + ", 1)", t.deed(1, i, 1), wholes[i]);
        }
        Document.says("7", "2 1 with x, else 0.");
        for (int i = 0; i < 9; i++) {
            Check.due("deed(1, " + i + ", 2)", t.deed(1, i, 2), xs[i]);
        }
        Document.says("7", "NONE: 1 (no such core, DEED, what).");
        int[][] none = {{-1, 0, 0}, {3, 0, 0}, {4, 0, 0}, {MIN, 0, 0}, {MAX, 0, 0}, {0, 0, 0}, {1, 9, 0}, {1, -1, 0},
            {2, 1, 0}, {1, 24, 0}, {1, MIN, 0}, {1, MAX, 0}, {1, 0, -1}, {1, 0, 3}, {1, 0, MIN}, {1, 0, MAX}};
        for (int[] each : none) {
            Check.refused(t, "deed" + java.util.Arrays.toString(each), t.deed(each[0], each[1], each[2]), 1);
        }
        Check.due("deed(2, 0, 0)", t.deed(2, 0, 0), 2);
    }

    /** WORDS of LINES that are CHANGED by a TRY, by a COMMIT, with the LOCK; promises 8, 9, 10. */
    private static void words() {
        Document.says("8", "THE WORD.");
        TriedLines t = Check.told(head(1, 2, 2, "wins", 2)
            + ";word 0 3;word 1 4;core;begin;plus 7;put 0;end;core;begin;get 2;get 1;put 1;end");
        int[][] due = {{3, 4, 3, 4, 3, 4}, {7, 4, 3, 4, 7, 4}, {7, 4, 7, 4, 7, 4}, {7, 0, 7, 4, 7, 4}};
        Check.steps(t, "000", "111");
        words(t, 0, due[0]);
        Check.steps(t, "0", "1");
        words(t, 0, due[1]);
        Check.steps(t, "111", "113");
        words(t, 0, due[1]);
        // by the LOCK: LINE 0 comes, and A is its word: 4
        Check.steps(t, "111", "111");
        words(t, 0, due[2]);
        refusedAddresses(t, 0);
        Document.says("9", "What MEMORY has.");
        words(t, 1, due[2]);
        TriedLines u = Check.told(head(1, 1, 1, "wins", 2) + ";word 0 3;core;begin;plus 8;put 0;get 1;put 0;end");
        Check.steps(u, "000000", "113111");
        Check.due("word(0)", u.word(0), 8);
        Check.due("memory(0)", u.memory(0), 3);
        Check.steps(u, "0", "1");
        Check.due("memory(0)", u.memory(0), 8);
        refusedAddresses(u, 1);
        Document.says("10", "THE SERIAL WORD.");
        Check.due("serial(0), not committed", u.serial(0), 3);
        Check.steps(u, "00", "11");
        Check.due("serial(0)", u.serial(0), 0);
        words(t, 2, due[2]);
        refusedAddresses(u, 2);
    }

    private static void words(TriedLines t, int kind, int[] due) {
        for (int a = 0; a < 2; a++) {
            if (kind == 0) {
                Check.due("word(" + a + ")", t.word(a), due[a]);
            }
            if (kind < 2) {
                Check.due("memory(" + a + ")", t.memory(a), due[2 + a]);
            }
            Check.due("serial(" + a + ")", t.serial(a), due[4 + a]);
        }
    }

    private static void refusedAddresses(TriedLines t, int kind) {
        Document.says("" + (8 + kind), "NONE: 1.");
        TriedLines none = new TriedLines();
        int all = t.about(6);
        for (int a : new int[] {-1, all, 64, MIN, MAX}) {
            Check.refused(t, "of ADDRESS " + a, wordOf(t, kind, a), 1);
            Check.refused(none, "of ADDRESS " + a + " without a MACHINE", wordOf(none, kind, a), 1);
        }
        Check.refused(none, "of ADDRESS 0 without a MACHINE", wordOf(none, kind, 0), 1);
        Check.due("of the last ADDRESS", wordOf(t, kind, all - 1), 0);
        Check.due("trouble()", t.trouble(), 0);
    }

    private static int wordOf(TriedLines t, int kind, int a) {
        return kind == 0 ? t.word(a) : kind == 1 ? t.memory(a) : t.serial(a);
    }

    private static void agrees() {
        Document.says("11", "1 if all SERIAL WORDS are THE WORDS, 0.");
        for (int words : new int[] {1, 4}) {
            for (int a : new int[] {0, 16 * words - 1}) {
                // with the LOCK a word is there for all to see ahead of its COMMIT
                TriedLines t = Check.told(head(1, 1, words, "wins", 2)
                    + ";word 5 1;core;begin;plus 3;put " + a + ";end");
                Check.due("agrees() at first", t.agrees(), 1);
                Check.steps(t, "00000", "11311");
                Check.due("agrees() with the LOCK", t.agrees(), 1);
                Check.steps(t, "0", "1");
                Check.due("agrees() behind the put", t.agrees(), 0);
                Check.steps(t, "0", "1");
                Check.due("agrees() behind the end", t.agrees(), 1);
            }
        }
        Document.says("11", "NONE: 1 (no MACHINE).");
        TriedLines none = new TriedLines();
        Check.refused(none, "agrees()", none.agrees(), 1);
    }

    private static void lock() {
        Document.says("12", "The core that has the LOCK; -2.");
        for (int c = 0; c < 4; c++) {
            TriedLines t = Check.told(head(1, 1, 1, "wins", 2) + ";core;begin;get 0;end".repeat(4));
            String own = "" + c;
            Check.due("lock() at first", t.lock(), -2);
            Check.steps(t, own + own, "13");
            Check.due("lock() behind CAPACITY", t.lock(), -2);
            Check.steps(t, own, "1");
            Check.due("lock()", t.lock(), c);
            Check.steps(t, own + own, "11");
            Check.due("lock() behind the end", t.lock(), -2);
            Check.due("trouble()", t.trouble(), 0);
        }
        Document.says("12", "NONE: 1 (no MACHINE).");
        TriedLines none = new TriedLines();
        Check.refused(none, "lock()", none.lock(), 1);
    }

    private static void alone() {
        Document.says("13", "All WORDS, if cores did all their DEEDS alone from the words told at first,",
            "one core behind the other, from one on (behind the last the first): that of an ADDRESS.");
        // each of 0, 1, 2 adds to ADDRESS 0 and puts what was there behind its place; 0 has a second TRY, 3 begins anew
        String text = head(1, 1, 1, "wins", 1)
            + ";core;begin;get 0;mark;put 1 x;plus 1;put 0;end;plus 9;mark;begin;plus 4;put 10 x;end"
            + ";core;begin;get 0;mark;put 1 x;plus 2;put 0;end"
            + ";core;begin;get 0;mark;put 1 x;plus 3;put 0;end"
            + ";core;begin;plus 7;put 11 x;end";
        TriedLines t = Check.told(text);
        // from 0: 0, 1, 3, 6; from 1: 0, 2, 5, 6; from 2: 0, 3, 4, 6; from 3: as from 0
        int[][] due = {{1, 3}, {2, 5}, {3, 4}, {1, 3}};
        for (int first = 0; first < 4; first++) {
            for (int a = 2; a < 8; a++) {
                int word = a == due[first][0] + 1 || a == due[first][1] + 1 ? a - 1 : 0;
                Check.due("alone(" + first + ", " + a + ")", t.alone(first, a), word);
            }
            Check.due("alone(" + first + ", 0)", t.alone(first, 0), 6);
            Check.due("alone(" + first + ", 10), A and X 0 at begin", t.alone(first, 10), 4);
            Check.due("alone(" + first + ", 11), A and X 0 at begin", t.alone(first, 11), 7);
        }
        t.rounds(200);
        Check.due("alone(1, 3) from the words told at first", t.alone(1, 3), 2);
        Check.due("nothing is done", t.word(0), 6);
        Document.says("13", "NONE: 1 (a core, an ADDRESS).");
        for (int bad : new int[] {-1, 16, 64, MIN, MAX}) {
            Check.refused(t, "alone(0, " + bad + ")", t.alone(0, bad), 1);
            Check.refused(t, "alone(" + bad + ", 0)", t.alone(bad, 0), 1);
        }
        Check.refused(t, "alone(4, 0)", t.alone(4, 0), 1);
        TriedLines none = new TriedLines();
        Check.refused(none, "alone(0, 0)", none.alone(0, 0), 1);
    }

    private static void place() {
        Document.says("14", "Of a PLACE of a core (SET, WAY from 0) 0 its LINE (-2 none),");
        TriedLines t = Check.told(head(2, 2, 1, "wins", 2) + ";core;core;begin;get 1;put 2;get 3;put 3;end;core");
        Check.steps(t, "11111", "11111");
        int[][][] due = {{{16, 2, 1, 0, 1}, {2, 3, 0, 1, 3}}, {{1, 2, 1, 0, 2}, {3, 3, 1, 1, 5}}};
        places(t, due, 0);
        Document.says("14", "1 how it is (1 .. 3; 0 none),");
        places(t, due, 1);
        Document.says("14", "2 1 with a READ mark,");
        places(t, due, 2);
        Document.says("14", "3 1 with a WRITE mark,");
        places(t, due, 3);
        Document.says("14", "4 USED (-2 none).");
        places(t, due, 4);
        Document.says("14", "NONE: 1 (no such core, SET, WAY, what).");
        int[][] none = {{-1, 0, 0, 0}, {3, 0, 0, 0}, {MIN, 0, 0, 0}, {MAX, 0, 0, 0}, {0, -1, 0, 0}, {0, 2, 0, 0}, {0, MIN, 0, 0},
            {0, MAX, 0, 0}, {0, 0, -1, 0}, {0, 0, 2, 0}, {0, 1, 2, 0}, {0, 1, -1, 0}, {0, 0, MIN, 0}, {0, 0, MAX, 0}, {0, 0, 0, -1},
            {0, 0, 0, 5}, {0, 0, 0, MIN}, {0, 0, 0, MAX}};
        for (int[] each : none) {
            String call = "place" + java.util.Arrays.toString(each);
            Check.refused(t, call, t.place(each[0], each[1], each[2], each[3]), 1);
        }
    }

    private static void places(TriedLines t, int[][][] due, int what) {
        for (int set = 0; set < 2; set++) {
            for (int way = 0; way < 2; way++) {
                String call = "place(1, " + set + ", " + way + ", " + what + ")";
                Check.due(call, t.place(1, set, way, what), due[set][way][what]);
                int empty = what == 0 || what == 4 ? -2 : 0;
                Check.due("of an empty one", t.place(0, set, way, what) + t.place(2, set, way, what), 2 * empty);
            }
        }
        Check.due("trouble()", t.trouble(), 0);
    }

    private static void cached() {
        Document.says("15", "What a core's CACHE has of an ADDRESS;");
        TriedLines t = Check.told(head(1, 2, 2, "wins", 2)
            + ";word 30 4;word 31 5;core;begin;plus 9;put 31;end;core;begin;get 30;end");
        Check.steps(t, "000", "111");
        Check.due("cached(0, 30)", t.cached(0, 30), 4);
        Check.due("cached(0, 31)", t.cached(0, 31), 9);
        Check.steps(t, "0", "1");
        Check.steps(t, "11", "11");
        Check.due("cached(1, 31)", t.cached(1, 31), 9);
        Document.says("15", "-2 if it hasn't its LINE.");
        for (int a = 0; a < 30; a++) {
            Check.due("cached(1, " + a + ")", t.cached(1, a), -2);
        }
        Check.due("trouble()", t.trouble(), 0);
        TriedLines u = Check.told(head(1, 2, 1, "wins", 2) + ";core;begin;put 3;end");
        Check.due("at first", u.cached(0, 3), -2);
        Check.steps(u, "00", "11");
        Check.due("in the TRY", u.cached(0, 3), 0);
        u.interrupt(0);
        Check.due("behind the TRY", u.cached(0, 3), -2);
        Document.says("15", "NONE: 1.");
        TriedLines none = new TriedLines();
        Check.refused(none, "cached(0, 0)", none.cached(0, 0), 1);
        for (int bad : new int[] {-1, 32, 64, MIN, MAX}) {
            Check.refused(t, "cached(0, " + bad + ")", t.cached(0, bad), 1);
            Check.refused(t, "cached(" + bad + ", 0)", t.cached(bad, 0), 1);
        }
        Check.refused(t, "cached(2, 0)", t.cached(2, 0), 1);
    }

    private static void sharers() {
        Document.says("16", "Cores that have a LINE (0 .. 16), as bits.");
        StringBuilder text = new StringBuilder(head(1, 4, 1, "wins", 2));
        for (int c = 0; c < 4; c++) {
            text.append(";core;begin;get ").append(c).append(";get 15;put ").append(4 + c).append(";end");
        }
        TriedLines t = Check.told(text.toString());
        Check.due("at first", t.sharers(0) + t.sharers(15) + t.sharers(16), 0);
        Check.steps(t, "0001112233", "1111111111");
        int[] due = {1, 2, 4, 8, 0, 0, 0, 0, 0, 0, 0, 0, 0, 0, 0, 3, 15};
        for (int line = 0; line <= 16; line++) {
            Check.due("sharers(" + line + ")", t.sharers(line), due[line]);
        }
        Check.steps(t, "2323", "1111");
        Check.due("sharers(15)", t.sharers(15), 15);
        Check.due("sharers(6)", t.sharers(6), 4);
        Check.due("sharers(7)", t.sharers(7), 8);
        Document.says("16", "NONE: 1 (no MACHINE; no such LINE).");
        for (int line : new int[] {-1, -2, 17, MIN, MAX}) {
            Check.refused(t, "sharers(" + line + ")", t.sharers(line), 1);
        }
        TriedLines none = new TriedLines();
        Check.refused(none, "sharers(0)", none.sharers(0), 1);
    }

    private static void readsAndWrites() {
        String deeds = ";begin;get 0;get 15;put 14;put 13;get 13;end";
        TriedLines t = Check.told(head(2, 4, 1, "wins", 2) + ";core;core" + deeds + ";core;begin;get 0;end");
        Document.says("17", "LINES with READ marks of a core, as bits.");
        Check.steps(t, "1111112", "1111111");
        Check.due("reads(1)", t.reads(1), LOCK | 1 << 13 | 1 << 15 | 1);
        Check.due("reads(0)", t.reads(0), 0);
        Check.due("reads(2)", t.reads(2), LOCK);
        Document.says("18", "LINES with WRITE marks of a core, as bits.");
        Check.due("writes(1)", t.writes(1), 1 << 13 | 1 << 14);
        Check.due("writes(0)", t.writes(0), 0);
        Check.due("writes(2)", t.writes(2), 0);
        Check.due("trouble()", t.trouble(), 0);
        Check.steps(t, "1", "1");
        Document.says("17", "NONE: 1.");
        Check.due("reads(1) behind the end", t.reads(1), 0);
        for (int c : new int[] {-1, 3, 4, MIN, MAX}) {
            Check.refused(t, "reads(" + c + ")", t.reads(c), 1);
        }
        TriedLines none = new TriedLines();
        Check.refused(none, "reads(0)", none.reads(0), 1);
        Document.says("18", "NONE: 1.");
        Check.due("writes(1) behind the end", t.writes(1), 0);
        for (int c : new int[] {-1, 3, 4, MIN, MAX}) {
            Check.refused(t, "writes(" + c + ")", t.writes(c), 1);
        }
        Check.refused(none, "writes(0)", none.writes(0), 1);
    }

    private static void traffic() {
        Document.says("19", "0 how many LINES came into CACHES,");
        TriedLines t = Check.told(head(1, 3, 1, "wins", 2) + ";core;begin;get 0;get 0;put 1;end;begin;put 1;get 2;end"
            + ";core;begin;get 1;put 0;put 1;end");
        int[] came = {1, 2, 2, 3, 3, 3, 3, 4, 4};
        int[] written = {0, 0, 0, 0, 0, 0, 1, 1, 1};
        Look.traffic(t, 0, 0, 0);
        for (int i = 0; i < came.length; i++) {
            Check.steps(t, "0", "1");
            Check.due("traffic(0)", t.traffic(0), came[i]);
            Check.due("traffic(1)", t.traffic(1), written[i]);
        }
        Document.says("19", "1 how many were written to MEMORY,");
        // as a TRY puts on it, as another one sees it, owns it, as it goes from its PLACE
        Check.due("as a TRY put", t.traffic(1), 1);
        Check.steps(t, "11", "11");
        Check.due("as another one saw", t.traffic(1), 2);
        Check.due("memory(1)", t.memory(1), 0);
        TriedLines u = Check.told(head(1, 2, 1, "wins", 2)
            + ";core;begin;put 0;end;core;begin;put 0;end;begin;get 1;end;core;begin;put 0;end");
        Check.steps(u, "000111", "111111");
        Check.due("as another one owned", u.traffic(1), 1);
        Check.steps(u, "11", "11");
        Check.due("as it went", u.traffic(1), 2);
        Check.steps(u, "22", "11");
        Check.due("from MEMORY none is written", u.traffic(1), 2);
        Document.says("19", "2 how many were gone from CACHES because others came TO OWN them.");
        Check.due("as another one owned", u.traffic(2), 1);
        // not those that went from their PLACES, nor those of TRIES that ENDED; the LOCK's LINE, too
        u.interrupt(2);
        Check.due("behind an interrupt", u.traffic(2), 1);
        TriedLines v = Check.told(head(1, 3, 1, "wins", 1)
            + ";core;begin;get 0;put 1;end;core;begin;put 1;put 0;end;core;begin;get 2;get 3;get 4;end");
        Check.steps(v, "00011", "11111");
        Check.due("of a TRY that ENDED", v.traffic(2), 0);
        Check.steps(v, "1", "1");
        Check.due("a LINE without marks", v.traffic(2), 1);
        Check.steps(v, "22222", "11131");
        Check.due("the LOCK's LINE of two", v.traffic(2), 3);
        Document.says("19", "NONE: 1 (no MACHINE; another what).");
        for (int what : new int[] {-1, 3, MIN, MAX}) {
            Check.refused(v, "traffic(" + what + ")", v.traffic(what), 1);
        }
        TriedLines none = new TriedLines();
        Check.refused(none, "traffic(0)", none.traffic(0), 1);
    }

    private static void core() {
        Document.says("20", "Of a core 0 its next DEED (-2 none is left), 1 A, 2 X,");
        TriedLines t = Check.told(head(1, 2, 1, "wins", 9) + ";core;core;plus 4;mark;begin;get 0;get 1;end");
        Look.core(t, 0, -2, 0, 0);
        int[][] due = {{1, 4, 0, 0, 0, -2}, {2, 4, 4, 0, 0, -2}, {3, 0, 0, 1, 0, 3}, {4, 0, 0, 1, 0, 3}, {2, 0, 0, 0, 9, 3},
            {3, 0, 0, 2, 9, 3}, {4, 0, 0, 2, 9, 3}, {5, 0, 0, 2, 9, 3}, {-2, 0, 0, 0, 0, -2}};
        Look.core(t, 1, 0, 0, 0, 0, 0, -2);
        for (int[] each : due) {
            t.step(1);
            Look.core(t, 1, each);
        }
        Document.says("20", "3 0 OUT, 1 in a TRY, 2 it has the LOCK,");
        Check.due("core(1, 3)", t.core(1, 3), 0);
        TriedLines u = Check.told(head(1, 1, 1, "wins", 1) + ";core;begin;get 0;end");
        int[] states = {1, 0, 2, 2, 0};
        for (int state : states) {
            u.step(0);
            Check.due("core(0, 3)", u.core(0, 3), state);
        }
        Document.says("20", "4 LOST, 5 AGE (-2 none),");
        TriedLines v = Check.told(head(1, 4, 1, "yields", 9) + ";core;begin;put 0;end;core;mark;begin;get 0;end");
        Look.core(v, 1, 0, 0, 0, 0, 0, -2);
        Check.steps(v, "001111", "111131");
        Check.due("LOST", v.core(1, 4), 1);
        Check.due("AGE", v.core(1, 5), 4);
        Check.due("AGE of 0", v.core(0, 5), 1);
        Document.says("20", "6 how many DEEDS.");
        Check.due("core(0, 6)", v.core(0, 6), 3);
        Check.due("core(1, 6)", v.core(1, 6), 4);
        Check.due("without", t.core(0, 6), 0);
        Check.due("of 24", Check.told(HEAD + ";core" + ";mark".repeat(24)).core(0, 6), 24);
        Document.says("20", "NONE: 1 (no such core; another what).");
        refusedByCoreOrWhat(v, 2, 7, true);
    }

    private static void refusedByCoreOrWhat(TriedLines t, int cores, int whats, boolean isCore) {
        TriedLines none = new TriedLines();
        for (int bad : new int[] {-1, 4, MIN, MAX, cores}) {
            Check.refused(t, "of core " + bad, isCore ? t.core(bad, 0) : t.count(bad, 0), 1);
        }
        for (int bad : new int[] {-1, whats, MIN, MAX}) {
            Check.refused(t, "what " + bad, isCore ? t.core(0, bad) : t.count(0, bad), 1);
        }
        Check.refused(none, "without a MACHINE", isCore ? none.core(0, 0) : none.count(0, 0), 1);
    }

    private static void count() {
        Document.says("21", "Of a core how many TRIES ENDED 0 by CONFLICT,");
        TriedLines t = Check.told(head(1, 2, 1, "yields", 9)
            + ";core;begin;put 0;mark;end;core;begin;get 0;mark;end;core;begin;get 1;get 2;end");
        Check.steps(t, "00111111", "11131313");
        Look.count(t, 1, 3, 0, 0, 0, 0, 0, 0);
        Document.says("21", "2 by INTERRUPT,");
        t.interrupt(0);
        Look.count(t, 0, 0, 0, 1, 0, 0, 0, 0);
        Document.says("21", "1 by CAPACITY,");
        Check.steps(t, "1122", "1111");
        Check.steps(t, "2", "3");
        Look.count(t, 2, 0, 1, 0, 0, 0, 0, 0);
        Document.says("21", "3 by LOCK;");
        Check.steps(t, "02", "11");
        Look.count(t, 0, 0, 0, 1, 1, 0, 0, 0);
        Look.count(t, 1, 3, 0, 0, 1, 0, 0, 0);
        Document.says("21", "6 how often it WAITED.");
        Check.steps(t, "011", "222");
        Look.count(t, 0, 0, 0, 1, 1, 0, 0, 1);
        Look.count(t, 1, 3, 0, 0, 1, 0, 0, 2);
        TriedLines u = Check.told(head(1, 2, 1, "age", 9) + ";core;begin;put 0;end;core;begin;get 0;end");
        Check.steps(u, "00111", "11122");
        Look.count(u, 1, 0, 0, 0, 0, 0, 0, 2);
        Document.says("21", "4 how many COMMITS, 5 how many of them with the LOCK;");
        Check.steps(t, "222", "111");
        Look.count(t, 2, 0, 1, 0, 0, 1, 1, 0);
        Check.steps(t, "0000", "1111");
        Look.count(t, 0, 0, 0, 1, 1, 1, 0, 1);
        TriedLines v = Check.told(head(1, 2, 1, "wins", 9)
            + ";core;begin;end;begin;get 0;get 1;end;begin;end;core;begin;end");
        v.rounds(200);
        Look.count(v, 0, 0, 1, 0, 0, 3, 1, 0);
        Look.count(v, 1, 0, 0, 0, 0, 1, 0, 0);
        Document.says("21", "NONE: 1 (no such core; another what).");
        refusedByCoreOrWhat(t, 3, 7, false);
    }

    private static void advice() {
        Document.says("22",
            "What a core's begin would be next, if its TRY ended now by a cause (0 .. 3, as in count()): 0 a "
            + "TRY, 1 the LOCK.");
        for (int tries = 1; tries <= 3; tries++) {
            TriedLines t = Check.told(head(1, 4, 1, "yields", tries)
                + ";core;begin;put 0;mark;end;core;begin;get 0;end;core");
            Check.steps(t, "00", "11");
            for (int lost = 0; lost < tries; lost++) {
                Check.steps(t, "1", "1");
                // an object is good for 512 calls
                String before = lost == 0 ? Look.state(t) : "";
                int[] due = {lost + 1 >= tries ? 1 : 0, 1, 0, 0};
                for (int cause = 0; cause < 4; cause++) {
                    Check.due("advice(1, " + cause + ") of " + lost, t.advice(1, cause), due[cause]);
                    Check.due("trouble()", t.trouble(), 0);
                }
                Check.due("state", lost == 0 ? Look.state(t) : "", before);
                Check.steps(t, "1", "3");
            }
        }
        TriedLines t = Check.told(head(1, 1, 1, "wins", 3) + ";core;begin;get 0;end;core;begin;end");
        Document.says("22", "NONE: 1 (no such core);");
        for (int c : new int[] {-1, 2, 4, MIN, MAX}) {
            Check.refused(t, "advice(" + c + ", 0)", t.advice(c, 0), 1);
            Check.refused(t, "advice(" + c + ", 4)", t.advice(c, 4), 1);
        }
        TriedLines none = new TriedLines();
        Check.refused(none, "advice(0, 0)", none.advice(0, 0), 1);
        Document.says("22", "2;");
        Check.steps(t, "1", "1");
        for (int cause : new int[] {-1, 4, 5, MIN, MAX}) {
            Check.refused(t, "advice(1, " + cause + ")", t.advice(1, cause), 2);
            Check.refused(t, "advice(0, " + cause + ") OUT", t.advice(0, cause), 2);
        }
        Document.says("22", "5 (it is in no TRY).");
        Check.refused(t, "advice(0, 0) at first", t.advice(0, 0), 5);
        Check.steps(t, "000", "131");
        Check.refused(t, "advice(0, 0) with the LOCK", t.advice(0, 0), 5);
        Check.refused(t, "advice(1, 3) of a TRY that ENDED", t.advice(1, 3), 5);
        Check.steps(t, "0011", "1111");
        Check.refused(t, "advice(1, 0) at last", t.advice(1, 0), 5);
    }

    private static void commit() {
        Document.says("23",
            "Of the i-th COMMIT 0 its core, 1 the DEED of its begin, 2 the TIME of its end, 3 1 with the LOCK, "
            + "else 0.");
        TriedLines t = Check.told(head(1, 1, 1, "wins", 2)
            + ";core;mark;begin;end;begin;get 0;end;core;mark;mark;begin;end");
        Check.refused(t, "commit(0, 0) at first", t.commit(0, 0), 1);
        Check.steps(t, "000111100000", "111111113111");
        Look.commit(t, 0, 0, 1, 3, 0);
        Look.commit(t, 1, 1, 2, 7, 0);
        Look.commit(t, 2, 0, 3, 12, 1);
        // as many as there can be
        String core = ";core" + ";begin;end".repeat(12);
        TriedLines u = Check.told(head(1, 1, 1, "wins", 2) + core.repeat(4));
        u.rounds(200);
        Check.due("COMMITS", u.about(8), 48);
        Look.commit(u, 47, 3, 22, 96, 0);
        Look.commit(u, 46, 2, 22, 95, 0);
        Check.due("agrees()", u.agrees(), 1);
        Check.refused(u, "commit(48, 0)", u.commit(48, 0), 1);
        Document.says("23", "NONE: 1 (i, what, too).");
        for (int i : new int[] {-1, 3, MIN, MAX}) {
            Check.refused(t, "commit(" + i + ", 0)", t.commit(i, 0), 1);
        }
        for (int what : new int[] {-1, 4, MIN, MAX}) {
            Check.refused(t, "commit(0, " + what + ")", t.commit(0, what), 1);
        }
        TriedLines none = new TriedLines();
        Check.refused(none, "commit(0, 0)", none.commit(0, 0), 1);
    }
}
