/** Terms II, sentence by sentence: MEMORY, CACHES, TO SEE, TO OWN and the RULES. */
final class CacheSentences {
    private static final int LOCK = 1 << 16;
    private static final String[] RULES = {"wins", "age", "yields"};

    private CacheSentences() {
    }

    static void all() {
        memoryLines();
        lockLine();
        placesOfCache();
        setsOfLines();
        lineOrNone();
        states();
        marks();
        ownWords();
        used();
        theWord();
        seersAskWriters();
        ownersAskBoth();
        nobodyToAsk();
        wins();
        age();
        waitingDoesNothing();
        yields();
        firstPlace();
        leastUsedPlace();
        noPlace();
        changedInPlace();
        othersWrite();
        othersShare();
        othersLose();
        comesFromMemory();
        comesAs();
        isUsed();
    }

    private static String head(int sets, int ways, int words, String rule, int tries) {
        return Look.head(sets, ways, words, rule, tries);
    }

    private static void memoryLines() {
        Document.says("II", "MEMORY: 16 LINES of WORDS, ADDRESSES one behind the other;");
        for (int words : new int[] {1, 2, 4}) {
            for (int line : new int[] {0, 1, 7, 15}) {
                for (int address = line * words; address < (line + 1) * words; address++) {
                    TriedLines t = Check.told(head(1, 4, words, "wins", 2) + ";core;begin;get " + address + ";end");
                    Check.steps(t, "00", "11");
                    Check.due("reads of ADDRESS " + address + " by " + words, t.reads(0), LOCK | 1 << line);
                    Check.due("about(6)", t.about(6), 16 * words);
                    for (int a = 0; a < 16 * words; a++) {
                        Check.due("cached(0, " + a + ")", t.cached(0, a), a / words == line ? 0 : -2);
                    }
                }
            }
        }
    }

    private static void lockLine() {
        Document.says("II", "LINE 16 is the LOCK's, of no ADDRESS.");
        for (int words : new int[] {1, 2, 4}) {
            TriedLines t = Check.told(head(1, 1, words, "wins", 2) + ";core;begin;end");
            Check.steps(t, "0", "1");
            Look.place(t, 0, 0, 0, 16);
            Check.due("sharers(16)", t.sharers(16), 1);
            for (int a = 0; a < 16 * words; a++) {
                Check.due("cached(0, " + a + ")", t.cached(0, a), -2);
            }
            Check.refused(t, "word()", t.word(16 * words), 1);
            Check.refused(t, "cached()", t.cached(0, 16 * words), 1);
        }
    }

    private static void placesOfCache() {
        Document.says("II", "A CACHE of each core: SETS, each of as many PLACES as there are WAYS;");
        for (int sets : new int[] {1, 2, 4}) {
            for (int ways = 1; ways <= 4; ways++) {
                TriedLines t = Check.told(head(sets, ways, 1, "wins", 2) + ";core;core;core;core");
                for (int c = 0; c < 4; c++) {
                    Look.place(t, c, sets - 1, ways - 1, -2, 0, 0, 0, -2);
                    Check.refused(t, "place by SET", t.place(c, sets, 0, 0), 1);
                    Check.refused(t, "place by WAY", t.place(c, 0, ways, 0), 1);
                }
                // the LOCK's SET has one LINE less than WAYS for others, each other SET as many as WAYS
                fills(sets, ways, 0, ways - 1);
                if (sets > 1) {
                    fills(sets, ways, sets - 1, ways);
                }
            }
        }
    }

    /** In a TRY so many LINES of a SET fit, and no more. */
    private static void fills(int sets, int ways, int set, int fit) {
        String text = head(sets, ways, 1, "wins", 2) + ";core;begin";
        for (int i = 0; i <= fit; i++) {
            text += ";get " + (set + i * sets);
        }
        if (set + fit * sets < 16) {
            TriedLines t = Check.told(text + ";end");
            Check.steps(t, "0".repeat(fit + 2), "1".repeat(fit + 1) + "3");
            Check.due("by CAPACITY", t.count(0, 1), 1);
        }
    }

    private static void setsOfLines() {
        Document.says("II", "a LINE is in the SET of its number mod SETS.");
        for (int sets : new int[] {1, 2, 4}) {
            for (int line = 0; line < 16; line++) {
                TriedLines t = Check.told(head(sets, 3, 2, "wins", 2) + ";core;begin;get " + 2 * line + ";end");
                Check.steps(t, "00", "11");
                Look.place(t, 0, 0, 0, 16);
                Look.place(t, 0, line % sets, line % sets == 0 ? 1 : 0, line);
            }
        }
    }

    private static void lineOrNone() {
        Document.says("II", "In a PLACE there is a LINE, or none;");
        TriedLines t = Check.told(head(1, 2, 1, "wins", 2) + ";core;begin;put 5;end");
        Look.place(t, 0, 0, 1, -2, 0, 0, 0, -2);
        Check.steps(t, "00", "11");
        Look.place(t, 0, 0, 1, 5, 3, 0, 1, 2);
        t.interrupt(0);
        Look.place(t, 0, 0, 1, -2, 0, 0, 0, -2);
    }

    private static void states() {
        Document.says("II", "it is SHARED (1), ALONE (2) or CHANGED (3),");
        TriedLines t = Check.told(head(1, 3, 1, "wins", 2) + ";core;begin;get 0;put 1;end;core;begin;get 0;end");
        Check.steps(t, "000", "111");
        Look.place(t, 0, 0, 1, 0, 2);
        Look.place(t, 0, 0, 2, 1, 3);
        Check.steps(t, "11", "11");
        Look.place(t, 0, 0, 1, 0, 1);
        Look.place(t, 1, 0, 1, 0, 1);
    }

    private static void marks() {
        Document.says("II", "has a READ mark or none, a WRITE mark or none,");
        TriedLines t = Check.told(head(1, 4, 1, "wins", 2) + ";core;begin;get 0;put 1;get 2;put 2;end");
        Check.steps(t, "00000", "11111");
        Look.place(t, 0, 0, 1, 0, 2, 1, 0);
        Look.place(t, 0, 0, 2, 1, 3, 0, 1);
        Look.place(t, 0, 0, 3, 2, 3, 1, 1);
        Check.due("reads", t.reads(0), LOCK | 1 | 4);
        Check.due("writes", t.writes(0), 2 | 4);
        Check.steps(t, "0", "1");
        for (int way = 0; way < 4; way++) {
            Check.due("no READ mark", t.place(0, 0, way, 2), 0);
            Check.due("no WRITE mark", t.place(0, 0, way, 3), 0);
        }
    }

    private static void ownWords() {
        Document.says("II", "its own words,");
        TriedLines t = Check.told(head(1, 3, 2, "yields", 2)
            + ";word 0 4;word 1 5;core;begin;plus 9;put 0;end;core;begin;get 0;end");
        Check.steps(t, "000", "111");
        Check.due("cached(0, 0)", t.cached(0, 0), 9);
        Check.due("cached(0, 1)", t.cached(0, 1), 5);
        Check.due("memory(0)", t.memory(0), 4);
        Check.due("cached(1, 0)", t.cached(1, 0), -2);
    }

    private static void used() {
        Document.says("II", "and USED: the TIME of the STEP in which it was used last.");
        TriedLines t = Check.told(head(1, 3, 1, "wins", 2)
            + ";core;begin;get 0;mark;get 0;put 0;end;core;begin;get 0;end");
        Check.steps(t, "0011", "1111");
        Check.due("USED", t.place(0, 0, 1, 4), 2);
        Check.due("USED by another core", t.place(1, 0, 1, 4), 4);
        Check.due("USED of the LOCK's LINE", t.place(0, 0, 0, 4), 1);
        Check.steps(t, "0", "1");
        Check.due("USED behind a mark", t.place(0, 0, 1, 4), 2);
        Check.steps(t, "0", "1");
        Check.due("USED by a get again", t.place(0, 0, 1, 4), 6);
        Check.steps(t, "0", "1");
        Check.due("USED by a put", t.place(0, 0, 1, 4), 7);
        Check.steps(t, "0", "1");
        Check.due("USED behind the end", t.place(0, 0, 1, 4), 7);
    }

    private static void theWord() {
        Document.says("II",
            "THE WORD of an ADDRESS: if some core has its LINE CHANGED without a WRITE mark: what it has there, "
            + "else what MEMORY has.");
        for (int c = 0; c < 4; c++) {
            String text = head(1, 3, 2, "wins", 2) + ";word 2 3;word 3 4" + ";core".repeat(c)
                + ";core;begin;plus 7;put 2;end;begin;get 0;put 3;end" + ";core".repeat(3 - c);
            TriedLines t = Check.told(text);
            String own = "" + c;
            Check.due("no core has it", t.word(2), 3);
            Check.steps(t, own.repeat(3), "111");
            Check.due("CHANGED with a WRITE mark", t.word(2), 3);
            Check.steps(t, own, "1");
            Check.due("CHANGED without one", t.word(2), 7);
            Check.due("MEMORY then", t.memory(2), 3);
            Check.due("the other word of the LINE", t.word(3), 4);
            Check.steps(t, own.repeat(3), "111");
            Check.due("CHANGED with a WRITE mark again", t.word(3), 4);
            Check.due("word(2), written to MEMORY", t.word(2), 7);
            Check.steps(t, own, "1");
            Check.due("CHANGED without one again", t.word(3), 0);
        }
    }

    private static void seersAskWriters() {
        Document.says("II", "TO SEE a LINE, a core asks others that have it with a WRITE mark;");
        for (String rule : RULES) {
            // READ marks are not asked
            TriedLines t = Check.told(head(1, 3, 1, rule, 2)
                + ";core;begin;get 0;end;core;begin;get 0;end;core;begin;get 0;end");
            Check.steps(t, "001122", "111111");
            Check.due("all in TRIES", t.core(0, 3) + t.core(1, 3) + t.core(2, 3), 3);
            // WRITE marks are
            TriedLines u = Check.told(head(1, 3, 1, rule, 2) + ";core;begin;put 0;end;core;begin;get 0;end");
            Check.steps(u, "001", "111");
            int[] outcome = {1, 2, 3};
            int[] ends = {1, 0, 2};
            Look.would(u, 1, outcome[t.about(3)], ends[t.about(3)]);
        }
    }

    private static void ownersAskBoth() {
        Document.says("II", "TO OWN it, those that have it with either mark.");
        for (String first : new String[] {"get 0", "put 0", "get 0;put 0"}) {
            String text = ";core;begin;" + first + ";end;core;begin;put 0;end";
            TriedLines t = Check.told(head(1, 3, 1, "yields", 2) + text);
            int deeds = t.core(0, 6) - 1;
            Check.steps(t, "0".repeat(deeds) + "1", "1".repeat(deeds + 1));
            Look.would(t, 1, 3, 2);
            TriedLines u = Check.told(head(1, 3, 1, "wins", 2) + text);
            Check.steps(u, "0".repeat(deeds) + "1", "1".repeat(deeds + 1));
            Look.would(u, 1, 1, 1);
        }
        // of several of whom but some have marks, those are asked
        TriedLines t = Check.told(head(1, 3, 1, "wins", 2)
            + ";core;begin;get 0;end;core;begin;get 0;end;core;begin;get 1;end;core;begin;put 0;end");
        Check.steps(t, "00011223", "11111111");
        Look.would(t, 3, 1, 2);
    }

    private static void nobodyToAsk() {
        Document.says("II", "If there are any, the RULE decides:");
        for (String rule : RULES) {
            // its own marks, and LINES without marks, are in nobody's way
            TriedLines t = Check.told(head(1, 3, 1, rule, 2)
                + ";core;begin;get 0;put 0;get 0;put 0;end;core;begin;get 0;put 0;end");
            Check.steps(t, "000000", "111111");
            Check.steps(t, "1111", "1111");
            Check.due("CONFLICTS", t.count(0, 0) + t.count(1, 0) + t.count(1, 6), 0);
        }
    }

    private static final String FOUR = ";core;begin;get 0;end".repeat(3) + ";core;begin;put 0;end";

    private static void wins() {
        Document.says("II", "wins: their TRIES END by CONFLICT;");
        TriedLines t = Check.told(head(1, 3, 1, "wins", 5) + FOUR);
        // whether they are older or younger
        Check.steps(t, "0011322", "1111111");
        Look.would(t, 3, 1, 7);
        Check.steps(t, "3", "1");
        for (int c = 0; c < 3; c++) {
            Look.count(t, c, 1, 0, 0, 0, 0, 0, 0);
            Look.core(t, c, 0, 0, 0, 0, 1);
        }
        Look.core(t, 3, 2, 0, 0, 1, 0);
        Check.due("sharers(0)", t.sharers(0), 8);
        // of a WRITE mark
        TriedLines u = Check.told(head(1, 3, 1, "wins", 5) + ";core;begin;get 0;end;core;begin;plus 3;put 0;end");
        Check.steps(u, "11100", "11111");
        Look.count(u, 1, 1);
        Check.due("what its TRY put is not seen", u.core(0, 1), 0);
    }

    private static void age() {
        Document.says("II", "age: if each of them is younger, likewise,");
        // the core that puts is the oldest; then one of the three is older, each in turn
        TriedLines oldest = Check.told(head(1, 3, 1, "age", 5) + FOUR);
        Check.steps(oldest, "3001122", "1111111");
        Look.would(oldest, 3, 1, 7);
        Check.steps(oldest, "3", "1");
        for (int c = 0; c < 3; c++) {
            Look.count(oldest, c, 1, 0, 0, 0, 0, 0, 0);
        }
        for (int older = 0; older < 3; older++) {
            TriedLines t = Check.told(head(1, 3, 1, "age", 5) + FOUR);
            StringBuilder order = new StringBuilder("" + older + older + "3");
            for (int c = 0; c < 3; c++) {
                order.append(c == older ? "" : "" + c + c);
            }
            Check.steps(t, order.toString(), "1111111");
            Look.would(t, 3, 2, 0);
            Check.steps(t, "3", "2");
            for (int c = 0; c < 3; c++) {
                Look.core(t, c, 2, 0, 0, 1, 0);
            }
            Look.count(t, 3, 0, 0, 0, 0, 0, 0, 1);
        }
        TriedLines youngest = Check.told(head(1, 3, 1, "age", 5) + FOUR);
        Check.steps(youngest, "00112233", "11111112");
        // TO SEE: a WRITE mark of an older one, of a younger one
        TriedLines t = Check.told(head(1, 3, 1, "age", 5) + ";core;begin;put 0;end;core;begin;get 0;end");
        Check.steps(t, "0011", "1112");
        TriedLines u = Check.told(head(1, 3, 1, "age", 5) + ";core;begin;put 0;end;core;begin;get 0;end");
        Check.steps(u, "1001", "1111");
        Look.count(u, 0, 1);
    }

    private static void waitingDoesNothing() {
        Document.says("II", "else the core WAITS (nothing is done);");
        TriedLines t = Check.told(head(1, 3, 1, "age", 5) + ";word 0 8;core;begin;get 0;put 1;end"
            + ";core;begin;plus 4;mark;get 0;put 0;end;core;begin;get 0;end");
        Check.steps(t, "001111220", "111111111");
        // core 1 can't own LINE 0: core 0 is older, though core 2 is younger; LINE 0 has its READ mark in all
        Look.core(t, 1, 4, 8, 4, 1, 0, 3);
        String before = Look.state(t);
        Look.would(t, 1, 2, 0);
        Check.steps(t, "11", "22");
        Check.due("state", Look.state(t), before);
        Check.due("TIME", t.about(7), 11);
        Check.due("WAITED", t.count(1, 6), 2);
    }

    private static void yields() {
        Document.says("II", "yields: its own TRY ENDS by CONFLICT.");
        TriedLines t = Check.told(head(1, 3, 1, "yields", 5) + FOUR);
        // it is older than all, yet its own ENDS
        Check.steps(t, "3001122", "1111111");
        Look.would(t, 3, 3, 8);
        Check.steps(t, "3", "3");
        for (int c = 0; c < 3; c++) {
            Look.count(t, c, 0, 0, 0, 0, 0, 0, 0);
            Look.core(t, c, 2, 0, 0, 1, 0);
        }
        Look.count(t, 3, 1, 0, 0, 0, 0, 0, 0);
        Look.core(t, 3, 0, 0, 0, 0, 1, 1);
        Check.due("the LINE didn't come", t.sharers(0), 7);
        Check.due("traffic(0)", t.traffic(0), 7);
    }

    private static void firstPlace() {
        Document.says("II", "Then, if the core hasn't the LINE: a PLACE of its SET: the first with none;");
        // core 1 takes LINE 0 out of the middle of core 0's PLACES
        TriedLines t = Check.told(head(1, 4, 1, "wins", 2)
            + ";core;begin;get 0;get 1;end;begin;get 2;get 3;end;core;begin;put 0;end");
        Check.steps(t, "000011", "111111");
        Look.place(t, 0, 0, 1, -2);
        Look.place(t, 0, 0, 2, 1);
        Check.steps(t, "00", "11");
        Look.place(t, 0, 0, 1, 2);
        Look.place(t, 0, 0, 3, -2);
        Check.steps(t, "0", "1");
        Look.place(t, 0, 0, 3, 3);
        // one with none is taken though ahead of it there is one without marks
        TriedLines v = Check.told(head(1, 4, 1, "wins", 2) + ";core;begin;get 0;end;begin;get 1;end;begin;get 2;end");
        Check.steps(v, "00000000", "11111111");
        for (int way = 1; way < 4; way++) {
            Look.place(v, 0, 0, way, way - 1);
        }
        // a LINE that is there comes not again
        TriedLines u = Check.told(head(1, 4, 1, "wins", 2) + ";core;begin;get 0;get 0;put 0;put 0;end;begin;get 0;end");
        Check.steps(u, "00000000", "11111111");
        Check.due("traffic(0)", u.traffic(0), 2);
        Look.place(u, 0, 0, 2, -2);
    }

    private static void leastUsedPlace() {
        Document.says("II", "else, of those without marks, the least USED,");
        TriedLines t = Check.told(head(1, 3, 1, "wins", 2) + ";core;begin;get 0;get 1;get 0;end;begin;get 2;get 3;end");
        Check.steps(t, "00000", "11111");
        Look.place(t, 0, 0, 1, 0, 2, 0, 0, 4);
        Look.place(t, 0, 0, 2, 1, 2, 0, 0, 3);
        Check.steps(t, "00", "11");
        // LINE 1 is the least USED: the LOCK's has a mark
        Look.place(t, 0, 0, 0, 16);
        Look.place(t, 0, 0, 1, 0);
        Look.place(t, 0, 0, 2, 2);
        Check.steps(t, "0", "1");
        Look.place(t, 0, 0, 1, 3);
        Look.place(t, 0, 0, 2, 2);
        // of another SET none goes, though it is USED less
        TriedLines u = Check.told(head(2, 2, 1, "wins", 2) + ";core;begin;get 1;get 0;end;begin;get 2;end");
        Check.steps(u, "000000", "111111");
        Look.place(u, 0, 1, 0, 1);
        Look.place(u, 0, 0, 0, 16);
        Look.place(u, 0, 0, 1, 2);
        Document.says("II", "of like ones the first;");
        // like ones can't be: in a STEP a core uses one LINE; with the LOCK, which marks none, too
        TriedLines v = Check.told(head(1, 3, 1, "wins", 2) + ";core;begin;get 0;get 1;get 2;get 3;get 0;get 4;end");
        Check.steps(v, "00000000000", "11131111111");
        int[] lines = {4, 3, 0};
        for (int way = 0; way < 3; way++) {
            Look.place(v, 0, 0, way, lines[way]);
        }
    }

    private static void noPlace() {
        Document.says("II", "without such a one its TRY ENDS by CAPACITY.");
        for (String marked : new String[] {"get 0", "put 0"}) {
            TriedLines t = Check.told(head(1, 2, 1, "wins", 5) + ";core;begin;" + marked + ";get 1;end");
            Check.steps(t, "00", "11");
            Look.would(t, 0, 3, 1);
            Check.steps(t, "0", "3");
            Look.count(t, 0, 0, 1, 0, 0, 0, 0, 0);
            Look.traffic(t, 2, 0, 0);
        }
        // the asked ones' TRIES have ENDED by then, and stay so; the LINE itself stays where it is
        TriedLines t = Check.told(head(1, 2, 1, "wins", 5) + ";core;begin;get 1;put 0;end;core;begin;get 0;end");
        Check.steps(t, "0011", "1111");
        Look.would(t, 0, 3, 3);
        Check.steps(t, "0", "3");
        Look.count(t, 0, 0, 1);
        Look.count(t, 1, 1, 0);
        Check.due("sharers(0)", t.sharers(0), 2);
        Check.due("traffic(2)", t.traffic(2), 0);
        // full of another SET's LINES is no matter
        TriedLines u = Check.told(head(2, 1, 1, "wins", 5) + ";core;begin;get 1;get 2;end");
        Check.steps(u, "000", "113");
    }

    private static void changedInPlace() {
        Document.says("II", "If in that PLACE there is a LINE CHANGED, that is written to MEMORY.");
        TriedLines t = Check.told(head(1, 2, 2, "wins", 2)
            + ";word 1 6;core;begin;plus 5;put 0;end;begin;get 2;end;begin;get 4;end");
        Check.steps(t, "00000", "11111");
        Check.due("memory(0)", t.memory(0), 0);
        Check.steps(t, "0", "1");
        Check.due("memory(0)", t.memory(0), 5);
        Check.due("memory(1)", t.memory(1), 6);
        Look.traffic(t, 3, 1, 0);
        // ALONE it is not written
        Check.steps(t, "000", "111");
        Look.traffic(t, 4, 1, 0);
        // the LOCK's LINE likewise
        TriedLines u = Check.told(head(1, 1, 1, "wins", 2) + ";core;begin;get 0;end");
        Check.steps(u, "0000", "1311");
        Look.traffic(u, 2, 1, 0);
    }

    private static void othersWrite() {
        Document.says("II", "Then others: who has the LINE CHANGED writes it to MEMORY;");
        for (String deed : new String[] {"get 0", "put 1"}) {
            TriedLines t = Check.told(head(1, 3, 2, "wins", 2) + ";word 0 2;word 1 3;core;begin;plus 5;put 0;end"
                + ";core;begin;" + deed + ";end");
            Check.steps(t, "0000", "1111");
            Check.due("memory(0)", t.memory(0), 2);
            Check.steps(t, "11", "11");
            Check.due("memory(0)", t.memory(0), 5);
            Check.due("memory(1)", t.memory(1), 3);
            Check.due("cached(1, 0)", t.cached(1, 0), 5);
            Check.due("traffic(1)", t.traffic(1), 1);
        }
        // not CHANGED, it is not written; with a WRITE mark of a TRY that ENDED it is gone
        TriedLines t = Check.told(head(1, 3, 1, "wins", 2)
            + ";core;begin;get 0;end;core;begin;plus 3;put 0;end;core;begin;put 0;end");
        Check.steps(t, "0000111", "1110111");
        Check.due("traffic(1)", t.traffic(1), 0);
        Check.steps(t, "22", "11");
        Look.traffic(t, 6, 0, 1);
        Check.due("memory(0)", t.memory(0), 0);
    }

    private static void othersShare() {
        Document.says("II", "TO SEE: who has it ALONE, CHANGED, has it SHARED then;");
        TriedLines t = Check.told(head(1, 3, 1, "wins", 2) + ";core;begin;get 0;put 1;end;core;begin;get 0;get 1;end");
        Check.steps(t, "0000", "1111");
        Look.place(t, 0, 0, 1, 0, 2);
        Look.place(t, 0, 0, 2, 1, 3);
        Check.steps(t, "111", "111");
        Look.place(t, 0, 0, 0, 16, 1);
        Look.place(t, 0, 0, 1, 0, 1);
        Look.place(t, 0, 0, 2, 1, 1);
        Check.due("sharers", t.sharers(0) * 4 + t.sharers(1), 15);
        Check.due("word(1)", t.word(1), 0);
    }

    private static void othersLose() {
        Document.says("II", "TO OWN: nobody else has it then.");
        TriedLines t = Check.told(head(1, 3, 1, "wins", 2)
            + ";core;begin;get 0;end".repeat(3) + ";core;begin;put 0;end");
        Check.steps(t, "000111223", "111111111");
        Check.due("sharers(0)", t.sharers(0), 7);
        Check.steps(t, "3", "1");
        Check.due("sharers(0)", t.sharers(0), 8);
        for (int c = 0; c < 3; c++) {
            Look.place(t, c, 0, 1, -2, 0, 0, 0, -2);
        }
        Check.due("traffic(2)", t.traffic(2), 3);
    }

    private static void comesFromMemory() {
        Document.says("II", "The LINE comes into the PLACE from MEMORY, without marks,");
        TriedLines t = Check.told(head(1, 1, 4, "wins", 2)
            + ";word 4 1;word 5 2;word 6 3;word 7 4;word 8 5;core;begin;get 6;put 5;end");
        Check.steps(t, "0000", "1311");
        // with the LOCK no mark is made
        Look.place(t, 0, 0, 0, 1, 2, 0, 0, 4);
        for (int a = 4; a < 8; a++) {
            Check.due("cached(0, " + a + ")", t.cached(0, a), a - 3);
        }
        Check.steps(t, "0", "1");
        Look.place(t, 0, 0, 0, 1, 3, 0, 0, 5);
        int[] words = {1, 3, 3, 4};
        for (int a = 4; a < 8; a++) {
            Check.due("cached(0, " + a + ")", t.cached(0, a), words[a - 4]);
        }
    }

    private static void comesAs() {
        Document.says("II", "TO SEE: SHARED, if another one has it, else ALONE;");
        TriedLines t = Check.told(head(1, 3, 1, "wins", 2)
            + ";core;begin;get 0;end;begin;get 0;end;core;begin;get 0;put 0;end"
            + ";core;begin;get 0;end");
        Check.steps(t, "00", "11");
        Look.place(t, 0, 0, 1, 0, 2);
        Check.steps(t, "11", "11");
        Look.place(t, 1, 0, 1, 0, 1);
        // who has it SHARED keeps it so, though no other one has it any more
        Check.steps(t, "220", "111");
        TriedLines u = Check.told(head(1, 2, 1, "wins", 2)
            + ";core;begin;get 0;end;begin;get 1;end;core;begin;get 0;get 0;end");
        Check.steps(u, "0001100", "1111111");
        Check.due("sharers(0)", u.sharers(0), 2);
        Check.steps(u, "1", "1");
        Look.place(u, 1, 0, 1, 0, 1);
        // one whose TRY ENDS by this, with a WRITE mark, has it no more
        TriedLines w = Check.told(head(1, 2, 1, "wins", 2) + ";core;begin;put 0;end;core;begin;get 0;end");
        Check.steps(w, "0011", "1111");
        Look.place(w, 1, 0, 1, 0, 2);
        Document.says("II", "TO OWN: it is CHANGED then.");
        Check.steps(t, "1", "1");
        // SHARED before
        Look.place(t, 1, 0, 1, 0, 3, 1, 1);
        Check.due("traffic(0)", t.traffic(0), 6);
        // not there, ALONE, CHANGED before
        for (String before : new String[] {"", "get 0;", "put 0;", "get 0;end;begin;", "put 0;end;begin;"}) {
            TriedLines v = Check.told(head(1, 3, 1, "wins", 2) + ";core;begin;" + before + "put 0;end");
            int deeds = v.core(0, 6) - 1;
            Check.steps(v, "0".repeat(deeds), "1".repeat(deeds));
            Look.place(v, 0, 0, 1, 0, 3);
        }
    }

    private static void isUsed() {
        Document.says("II", "It is USED.");
        // TO SEE, TO OWN; coming and there; the LOCK's too
        TriedLines t = Check.told(head(1, 3, 1, "wins", 2) + ";core;begin;get 0;put 1;get 1;put 0;end;begin;end");
        String[] after = {"1", "1 2", "1 2 3", "1 2 4", "1 5 4", "1 5 4", "7 5 4", "7 5 4"};
        for (int i = 0; i < after.length; i++) {
            Check.steps(t, "0", "1");
            String[] due = after[i].split(" ");
            for (int way = 0; way < due.length; way++) {
                Check.due("USED in " + way + " at " + (i + 1), t.place(0, 0, way, 4), Integer.parseInt(due[way]));
            }
        }
    }
}
