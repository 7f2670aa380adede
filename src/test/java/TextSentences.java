/** Terms I, sentence by sentence: the text of a MACHINE and its FAULTS. */
final class TextSentences {
    static final String HEAD = "machine sets 1 ways 1 words 1 rule wins tries 1";
    private static final String[] DEEDS = {"begin", "end", "mark", "get 0", "put 0", "plus 1", "less 1"};

    private TextSentences() {
    }

    static void all() {
        tape();
        blanks();
        letters();
        digits();
        semicolons();
        lines();
        machineForm();
        machineBounds();
        machineAhead();
        wordForm();
        wordBounds();
        wordsTold();
        cores();
        deedForms();
        deedAddresses();
        deedWholes();
        deedsOfCores();
        fromTheLeft();
        leastNumber();
        formByBytes();
        formByTokens();
        outOfBounds();
        again();
        many();
        lacks();
        open();
    }

    private static void tape() {
        Document.says("I", "THE TEXT of a MACHINE (THE TAPE has 900 bytes;");
        String text = HEAD + ";core;plus 77";
        String full = " ".repeat(900 - text.length()) + text;
        TriedLines t = Check.good(full, 1);
        Check.due("the WHOLE in its last bytes", t.deed(0, 0, 1), 77);
        Check.faulty(full.substring(0, 899) + "!", 1, 899);
        Check.faulty(full.substring(1) + ";", 1, 900);
    }

    private static void blanks() {
        Document.says("I", "blanks, 32, part TOKENS and mean nothing else;");
        Check.good("   machine  sets 1 ways 1 words 1 rule wins tries 1   ;   core  ;  begin;get  0   x ;end   ", 1);
        Check.good("machine sets1ways1words1rule wins tries1;word15 999;core;begin;get0x;end;plus5", 1);
        Check.faulty(1, HEAD + ";core;^be gin;end");
        Check.faulty(1, HEAD + ";core;plus 1 ^2");
        for (int b : new int[] {0, 9, 10, 11, 12, 13, 31, 33, 95, 160, 255}) {
            Check.faulty(1, HEAD + ";core^" + (char) b + ";mark");
        }
    }

    private static void letters() {
        Document.says("I", "TOKENS: WORDS of 1 to 7 small letters that stand together,");
        Check.good(HEAD + ";core;begin;get 0 x;end", 1);
        Check.faulty(1, HEAD + ";core;begin;get 0 ^xx;end");
        Check.faulty(1, "^machinesets 1");
        Check.faulty(1, HEAD + ";core;^markz");
        Check.faulty(1, HEAD + ";core;^marka");
        Check.faulty(1, HEAD + ";core;mark^`");
        Check.faulty(1, HEAD + ";core;mark^{");
        Check.faulty(1, HEAD + ";core;mark^A");
        Check.faulty(1, HEAD + ";core;mark^Z");
        Check.faulty(1, HEAD + ";core;^Mark");
        Check.faulty(1, HEAD + ";core;mark^\u00e4");
    }

    private static void digits() {
        Document.says("I", "WHOLES of 1 to 3 digits that do,");
        TriedLines t = Check.good(HEAD + ";core;plus 7;plus 42;plus 980;plus 007;plus 000", 1);
        int[] wholes = {7, 42, 980, 7, 0};
        for (int i = 0; i < wholes.length; i++) {
            Check.due("deed(0, " + i + ", 1)", t.deed(0, i, 1), wholes[i]);
        }
        Check.faulty(1, HEAD + ";core;plus ^0007");
        Check.faulty(1, HEAD + ";core;plus 90^/");
        Check.faulty(1, HEAD + ";core;plus 90^:");
        Check.faulty(1, HEAD + ";core;plus ^-1");
    }

    private static void semicolons() {
        Document.says("I", "single ones of ;)");
        Check.good(HEAD + ";core;mark;core;mark", 2);
        Check.faulty(1, HEAD + ";core;^;mark");
        Check.faulty(1, HEAD + ";core^:mark");
        Check.faulty(1, HEAD + ";core^,mark");
    }

    private static void lines() {
        Document.says("I", "LINE {; LINE}. LINE, one of:");
        Check.good(HEAD + ";core", 1);
        Check.faulty(1, "^;" + HEAD + ";core");
        Check.faulty(1, HEAD + ";core ^mark");
        Check.faulty(1, HEAD + " ^core");
        Check.faulty(1, HEAD + ";core; ^");
        Check.faulty(1, HEAD + ";core;^line");
        Check.faulty(1, HEAD + ";core;^5");
    }

    private static void machineForm() {
        Document.says("I", "machine sets WHOLE ways WHOLE words WHOLE rule RULE tries WHOLE");
        Check.good(HEAD + ";core", 1);
        String[] tokens = HEAD.split(" ");
        String before = "";
        for (int i = 0; i < tokens.length; i++) {
            boolean isWhole = Character.isDigit(tokens[i].charAt(0));
            Check.faulty(1, before + "^");
            Check.faulty(1, before + "^" + (isWhole ? "x" : "1") + " 1;core");
            Check.faulty(1, before + "^;core");
            if (i > 0) {
                Check.faulty(1, before + "^core;core");
            }
            before += tokens[i] + " ";
        }
        Check.faulty(1, "machine ^ways 1 sets 1 words 1 rule wins tries 1;core");
        Check.faulty(1, HEAD + " ^1;core");
    }

    private static void machineBounds() {
        Document.says("I", "(SETS 1, 2 or 4;");
        bounded("sets", "machine sets # ways 1 words 1 rule wins tries 1;core", 0, 1, 2, 4);
        Document.says("I", "WAYS 1 .. 4;");
        bounded("ways", "machine sets 1 ways # words 1 rule wins tries 1;core", 1, 1, 2, 3, 4);
        Document.says("I", "WORDS of a LINE 1, 2 or 4;");
        bounded("words", "machine sets 1 ways 1 words # rule wins tries 1;core", 2, 1, 2, 4);
        Document.says("I", "TRIES 1 .. 9),");
        bounded("tries", "machine sets 1 ways 1 words 1 rule wins tries #;core", 4, 1, 2, 3, 4, 5, 6, 7, 8, 9);
        Document.says("I", "RULE: wins, age, or yields;");
        String[] rules = {"wins", "age", "yields"};
        for (int rule = 0; rule < 3; rule++) {
            TriedLines t = Check.good("machine sets 1 ways 1 words 1 rule " + rules[rule] + " tries 1;core", 1);
            Check.due("about(3)", t.about(3), rule);
        }
        for (String none : new String[] {"win", "ages", "yield", "lock", "tries", "0", ";"}) {
            Check.faulty(1, "machine sets 1 ways 1 words 1 rule ^" + none + " tries 1;core");
        }
    }

    /** Of the WHOLES 0 .. 12 and 999 those in the text's place of # that fit, and no others. */
    private static void bounded(String name, String text, int what, int... fit) {
        for (int whole = 0; whole <= 13; whole++) {
            int told = whole == 13 ? 999 : whole;
            boolean fits = false;
            for (int each : fit) {
                fits |= each == told;
            }
            if (fits) {
                Check.due(name, Check.good(text.replace("#", "" + told), 1).about(what), told);
            } else {
                Check.faulty(2, text.replace("#", "^" + told));
            }
        }
    }

    private static void machineAhead() {
        Document.says("I", "ahead of all others");
        Check.faulty(5, "^core;" + HEAD);
        Check.faulty(5, "^word 0 0;" + HEAD + ";core");
        for (String deed : DEEDS) {
            Check.faulty(5, "^" + deed + ";" + HEAD + ";core");
        }
    }

    private static void wordForm() {
        Document.says("I", "word WHOLE WHOLE");
        Check.good(HEAD + ";word 0 0;core", 1);
        Check.faulty(1, HEAD + ";word^");
        Check.faulty(1, HEAD + ";word^;core");
        Check.faulty(1, HEAD + ";word ^x 1;core");
        Check.faulty(1, HEAD + ";word 1^");
        Check.faulty(1, HEAD + ";word 1^;core");
        Check.faulty(1, HEAD + ";word 1 ^x;core");
        Check.faulty(1, HEAD + ";word 1 2 ^3;core");
        Check.faulty(1, HEAD + ";word 1 2 ^core");
    }

    private static void wordBounds() {
        Document.says("I", "(an ADDRESS, 0 .. 16 times WORDS less 1;");
        for (int words : new int[] {1, 2, 4}) {
            String head = Look.head(1, 1, words, "wins", 1);
            int last = 16 * words - 1;
            TriedLines t = Check.good(head + ";word 0 5;word " + last + " 6;core", 1);
            Check.due("word(0)", t.word(0), 5);
            Check.due("word(" + last + ")", t.word(last), 6);
            Check.faulty(2, head + ";word ^" + (last + 1) + " 6;core");
            Check.faulty(2, head + ";word ^999 6;core");
        }
        Document.says("I", "what is there at first, 0 .. 999;");
        TriedLines t = Check.good(HEAD + ";word 3 0;word 4 999;word 5 1;core", 1);
        int[] first = {0, 999, 1};
        for (int i = 0; i < 3; i++) {
            Check.due("word()", t.word(3 + i), first[i]);
            Check.due("memory()", t.memory(3 + i), first[i]);
            Check.due("serial()", t.serial(3 + i), first[i]);
            Check.due("alone()", t.alone(0, 3 + i), first[i]);
            Check.due("triedWord()", t.triedWord(0, 1, 0, 3 + i), first[i]);
        }
        Check.faulty(1, HEAD + ";word 3 ^1000;core");
    }

    private static void wordsTold() {
        Document.says("I", "each ADDRESS once;");
        Check.faulty(3, HEAD + ";word 5 1;word ^5 1;core");
        Check.faulty(3, HEAD + ";word 0 0;word ^0 0;core");
        Check.faulty(3, HEAD + ";word 15 1;word 2 1;core;mark;word ^015 7");
        Check.good(Look.head(1, 1, 4, "wins", 1) + ";word 0 1;word 1 1;word 2 1;word 3 1;core", 1);
        Document.says("I", "0 where none is told;");
        TriedLines t = Check.good(HEAD + ";word 7 9;core", 1);
        for (int a = 0; a < 16; a++) {
            Check.due("word(" + a + ")", t.word(a), a == 7 ? 9 : 0);
            Check.due("memory(" + a + ")", t.memory(a), a == 7 ? 9 : 0);
        }
        Check.tell(t, HEAD + ";word 8 1;core");
        Check.due("word(7) of the next MACHINE", t.word(7), 0);
        Document.says("I", "up to 12)");
        String twelve = words(12);
        Check.due("size(1)", Check.good(twelve + ";core", 1).size(1), 12);
        Check.due("size(1)", Check.good(words(6) + ";core;word 8 1;word 9 1;mark", 1).size(1), 8);
        Check.faulty(4, twelve + ";^word 12 0;core");
        Check.faulty(4, twelve + ";core;mark;^word 12 0");
    }

    private static String words(int n) {
        StringBuilder s = new StringBuilder(HEAD);
        for (int i = 0; i < n; i++) {
            s.append(";word ").append(i).append(" 1");
        }
        return s.toString();
    }

    private static void cores() {
        Document.says("I", "core (numbered from 0;");
        TriedLines t = Check.good(HEAD + ";core;plus 5;core;plus 6;plus 7", 2);
        Check.due("deed(0, 0, 1)", t.deed(0, 0, 1), 5);
        Check.due("deed(1, 0, 1)", t.deed(1, 0, 1), 6);
        Check.due("core(0, 6)", t.core(0, 6), 1);
        Check.due("core(1, 6)", t.core(1, 6), 2);
        Check.refused(t, "core(2, 6)", t.core(2, 6), 1);
        Document.says("I", "up to 4)");
        for (int n = 1; n <= 4; n++) {
            Check.due("about(5)", Check.good(HEAD + ";core".repeat(n), n).about(5), n);
        }
        Check.faulty(4, HEAD + ";core".repeat(4) + ";^core");
        Check.faulty(4, HEAD + ";core;mark;core;mark;core;mark;core;mark;^core;mark");
        Check.faulty(1, HEAD + ";core ^0");
    }

    private static void deedForms() {
        Document.says("I", "begin, end, mark,");
        TriedLines t = Check.good(HEAD + ";core;begin;mark;end", 1);
        int[] sorts = {0, 2, 1};
        for (int i = 0; i < 3; i++) {
            Check.due("deed(0, " + i + ", 0)", t.deed(0, i, 0), sorts[i]);
        }
        Check.faulty(1, HEAD + ";core;begin ^1;end");
        Check.faulty(1, HEAD + ";core;begin;end ^1");
        Check.faulty(1, HEAD + ";core;mark ^1");
        Check.faulty(1, HEAD + ";core;mark ^x");
        Document.says("I", "get WHOLE [x], put WHOLE [x]");
        for (String deed : new String[] {"get", "put"}) {
            TriedLines u = Check.good(HEAD + ";core;begin;" + deed + " 4;" + deed + " 5 x;end", 1);
            Check.due(deed + " 4", u.deed(0, 1, 1) * 10 + u.deed(0, 1, 2), 40);
            Check.due(deed + " 5 x", u.deed(0, 2, 1) * 10 + u.deed(0, 2, 2), 51);
            String before = HEAD + ";core;begin;" + deed + " ";
            Check.faulty(1, before + "^");
            Check.faulty(1, before + "^;end");
            Check.faulty(1, before + "^x;end");
            Check.faulty(1, before + "4 ^y;end");
            Check.faulty(1, before + "4 ^5;end");
            Check.faulty(1, before + "4 x ^x;end");
            Check.faulty(1, before + "4 x ^5;end");
        }
    }

    private static void deedAddresses() {
        Document.says("I", "(an ADDRESS each),");
        for (int words : new int[] {1, 2, 4}) {
            String before = Look.head(1, 1, words, "wins", 1) + ";core;begin;";
            int last = 16 * words - 1;
            for (String deed : new String[] {"get ", "put "}) {
                Check.good(before + deed + "0;" + deed + last + ";" + deed + last + " x;end", 1);
                Check.faulty(2, before + deed + "^" + (last + 1) + ";end");
                Check.faulty(2, before + deed + "^" + (last + 1) + " x;end");
                Check.faulty(2, before + deed + "^999;end");
            }
        }
    }

    private static void deedWholes() {
        Document.says("I", "plus WHOLE, less WHOLE (0 .. 999):");
        for (String deed : new String[] {"plus", "less"}) {
            TriedLines t = Check.good(HEAD + ";core;" + deed + " 0;" + deed + " 999", 1);
            Check.due(deed + " 0", t.deed(0, 0, 1), 0);
            Check.due(deed + " 999", t.deed(0, 1, 1), 999);
            Check.faulty(1, HEAD + ";core;" + deed + " ^1000");
            Check.faulty(1, HEAD + ";core;" + deed + "^");
            Check.faulty(1, HEAD + ";core;" + deed + " ^x");
            Check.faulty(1, HEAD + ";core;" + deed + " 1 ^x");
            Check.faulty(1, HEAD + ";core;" + deed + " 1 ^2");
        }
    }

    private static void deedsOfCores() {
        Document.says("I", "DEEDS of the latest core,");
        TriedLines t = Check.good(HEAD + ";core;plus 1;core;core;plus 3;word 0 1;plus 4", 3);
        Check.due("DEEDS of 0", t.core(0, 6), 1);
        Check.due("DEEDS of 1", t.core(1, 6), 0);
        Check.due("DEEDS of 2", t.core(2, 6), 2);
        Document.says("I", "numbered from 0,");
        Check.due("deed(2, 0, 1)", t.deed(2, 0, 1), 3);
        Check.due("deed(2, 1, 1)", t.deed(2, 1, 1), 4);
        Check.refused(t, "deed(2, 2, 1)", t.deed(2, 2, 1), 1);
        Document.says("I", "up to 24 of each");
        String core = ";core" + ";mark".repeat(24);
        TriedLines u = Check.good(HEAD + core.repeat(4), 4);
        Check.due("DEEDS of all", u.size(2), 96);
        for (int c = 0; c < 4; c++) {
            Check.due("core(" + c + ", 6)", u.core(c, 6), 24);
            Check.due("deed(" + c + ", 23, 0)", u.deed(c, 23, 0), 2);
            Check.refused(u, "deed(" + c + ", 24, 0)", u.deed(c, 24, 0), 1);
            Check.faulty(4, HEAD + core.repeat(c + 1) + ";^mark");
        }
    }

    private static void fromTheLeft() {
        Document.says("I", "FAULTS, the first that is met from the left,");
        String[] faults = {";mark ^!", ";less 1;begin;get ^16;end", ";mark;^machine", ";plus 1;^end"};
        int[] numbers = {1, 2, 3, 6};
        for (int i = 0; i < faults.length; i++) {
            for (String behind : faults) {
                Check.faulty(numbers[i], HEAD + ";core" + faults[i] + behind.replace("^", ""));
            }
            Check.faulty(5, HEAD + ";^mark" + faults[i].replace("^", ""));
            Check.faulty(4, HEAD + ";core" + ";mark".repeat(24) + ";^mark" + faults[i].replace("^", ""));
            Check.faulty(numbers[i], HEAD + ";core" + faults[i] + ";core;core;core;core");
        }
        Check.faulty(2, HEAD + ";word ^16 1000");
        Check.faulty(3, HEAD + ";word 3 1;word ^3 1000");
        // a FAULT at a LINE's first WORD is to the left of all behind it
        Check.faulty(4, words(12) + ";^word 99 !");
        Check.faulty(5, "^get 99");
        Check.faulty(6, HEAD + ";core;^put 99");
        Check.faulty(3, HEAD + ";core;^machine ways");
    }

    private static void leastNumber() {
        Document.says("I", "of one place the least number:");
        // FORM ahead of LACKS, OPEN at the end
        Check.faulty(1, HEAD + ";^");
        Check.faulty(1, HEAD + ";word 3 ^");
        Check.faulty(1, HEAD + ";core;begin;^");
        Check.faulty(1, HEAD + ";core;begin;plus ^");
        // MANY ahead of OPEN
        Check.faulty(4, HEAD + ";core".repeat(4) + ";begin;^core");
        Check.faulty(4, HEAD + ";core;begin" + ";mark".repeat(23) + ";^begin");
        for (String deed : new String[] {"end", "get 0", "put 0"}) {
            Check.faulty(4, HEAD + ";core" + ";mark".repeat(24) + ";^" + deed);
        }
        // LACKS ahead of OPEN
        for (String deed : new String[] {"end", "get 0", "put 0"}) {
            Check.faulty(5, HEAD + ";^" + deed + ";core");
            Check.faulty(5, "^" + deed);
        }
        // FORM ahead of LACKS
        Check.faulty(1, "^cores");
        Check.faulty(1, HEAD + ";^begins");
    }

    private static void formByBytes() {
        Document.says("I", "1 FORM: the first byte that begins no TOKEN");
        for (int b = 0; b < 256; b++) {
            boolean begins = b == ' ' || b == ';' || b >= '0' && b <= '9' || b >= 'a' && b <= 'z';
            if (!begins) {
                Check.faulty(1, HEAD + ";core;plus 5^" + (char) b + "6");
                Check.faulty(1, HEAD + ";core;mark^" + (char) b + "x");
            }
        }
        Check.faulty(1, "^!");
        Check.faulty(1, HEAD + ";core;mark ^! ?");
        Document.says("I", "(of more letters, digits that stand together: the first of them),");
        Check.faulty(1, HEAD + ";core;^markmark");
        Check.faulty(1, HEAD + ";core;^beginning;end");
        Check.faulty(1, "^machines sets 1");
        Check.faulty(1, HEAD + ";core;plus ^1234");
        Check.faulty(1, HEAD + ";core;plus ^" + "9".repeat(40));
        Check.faulty(1, HEAD + ";core;begin;get 1 ^" + "x".repeat(40));
    }

    private static void formByTokens() {
        Document.says("I", "or TOKEN with which no MACHINE goes on");
        for (String token : new String[] {"sets", "x", "wins", "yields", "z", "0", "999", ";"}) {
            Check.faulty(1, HEAD + ";core;^" + token);
            Check.faulty(1, "^" + token);
        }
        Check.faulty(1, HEAD + ";core ^x");
        Document.says("I", "(the end: its place).");
        Check.faulty("", 1, 0);
        Check.faulty("   ", 1, 3);
        Check.faulty("machine sets 1   ", 1, 17);
        Check.faulty(HEAD + ";core;plus", 1, HEAD.length() + 10);
        Check.faulty(HEAD + ";core;plus  ", 1, HEAD.length() + 12);
        // the end is where the n bytes end, whatever THE TAPE has behind them
        TriedLines t = new TriedLines();
        Check.feed(t, HEAD + ";core;plus 5");
        Check.due("machine(n)", t.machine(HEAD.length() + 10), -1);
        Check.due("where()", t.where(), HEAD.length() + 10);
        for (String text : new String[] {"core", " core", ";", "0"}) {
            Check.feed(t, text);
            Check.due("machine(0)", t.machine(0), -1);
            Check.due("fault(), where()", t.fault() * 10 + t.where(), 10);
        }
    }

    private static void outOfBounds() {
        Document.says("I", "2 a WHOLE out of bounds, at it.");
        Check.faulty(2, "machine sets   ^3 !");
        Check.faulty(2, "machine sets 1 ways ^0");
        Check.faulty(2, "machine sets 1 ways 1 words ^3");
        Check.faulty(2, "machine sets 1 ways 1 words 1 rule wins tries ^10");
        Check.faulty(2, HEAD + ";word   ^016");
        Check.faulty(2, HEAD + ";core;begin;get ^16 y");
        Check.faulty(2, HEAD + ";core;begin;put  ^999");
    }

    private static void again() {
        Document.says("I", "3 AGAIN: a second machine, at that WORD;");
        Check.faulty(3, HEAD + ";^" + HEAD + ";core");
        Check.faulty(3, HEAD + ";^machine");
        Check.faulty(3, HEAD + ";core;begin; ^machine");
        Document.says("I", "an ADDRESS that has a word already, at it.");
        Check.faulty(3, HEAD + ";word 3 1;word ^3 1;core");
        Check.faulty(3, HEAD + ";word 3 0;core;word  ^003");
        Check.faulty(3, HEAD + ";word 3 1;word 4 1;word 5 1;word ^4 x");
    }

    private static void many() {
        Document.says("I", "4 MANY: a LINE more of its sort", "than there is room for, at its first WORD.");
        Check.faulty(4, words(12) + "; ^word");
        Check.faulty(4, words(12) + ";^word 0 1");
        Check.faulty(4, HEAD + ";core".repeat(4) + "; ^core");
        Document.says("I", "(a DEED of the core)");
        for (String deed : DEEDS) {
            Check.faulty(4, HEAD + ";core;mark;core" + ";less 1".repeat(24) + ";^" + deed);
        }
        Check.faulty(4, HEAD + ";core;begin" + ";get 0".repeat(23) + ";^end");
        Check.faulty(4, HEAD + ";core" + ";mark".repeat(24) + ";word 0 1;^plus");
    }

    private static void lacks() {
        Document.says("I", "5 LACKS: any LINE ahead of the machine,");
        Check.faulty(5, "^core");
        Check.faulty(5, "  ^word");
        for (String deed : DEEDS) {
            Check.faulty(5, " ^" + deed);
        }
        Document.says("I", "a DEED ahead of any core, at its first WORD;");
        for (String deed : DEEDS) {
            Check.faulty(5, HEAD + "; ^" + deed + ";core");
            Check.faulty(5, HEAD + ";word 3 1;^" + deed);
        }
        Document.says("I", "at the end: no core.");
        Check.faulty(5, HEAD + "^");
        Check.faulty(5, HEAD + ";word 0 1   ^");
        Check.good(HEAD + ";word 0 1;core", 1);
    }

    private static void open() {
        Document.says("I", "6 OPEN: a begin behind a begin without an end between,");
        Check.faulty(6, HEAD + ";core;begin;^begin;end");
        Check.faulty(6, HEAD + ";core;begin;end;begin;mark; ^begin");
        Check.good(HEAD + ";core;begin;end;begin;end", 1);
        Document.says("I", "an end, get or put with no begin open,");
        for (String deed : new String[] {"end", "get 0", "put 0", "end 1", "get 99", "put"}) {
            Check.faulty(6, HEAD + ";core;^" + deed);
            Check.faulty(6, HEAD + ";core;begin;end;mark;^" + deed);
            Check.faulty(6, HEAD + ";core;begin;end;core; ^" + deed);
        }
        Check.good(HEAD + ";core;mark;plus 1;less 1;begin;mark;plus 1;less 1;get 0;put 0;end", 1);
        Document.says("I", "a core while a begin is open, at its WORD;");
        Check.faulty(6, HEAD + ";core;begin;^core");
        Check.faulty(6, HEAD + ";core;begin;mark; ^core;end");
        Check.good(HEAD + ";core;begin;word 3 1;end;core", 2);
        Document.says("I", "at the end: a begin is open.");
        Check.faulty(6, HEAD + ";core;begin^");
        Check.faulty(6, HEAD + ";core;core;begin;get 0 x  ^");
        Check.faulty(6, HEAD + ";core;begin;end;begin;mark^");
        // of the next text none is open, nor is there a machine, a word, a core
        TriedLines t = new TriedLines();
        Check.tell(t, HEAD + ";word 0 1;word 15 1;core;core;core;core;begin");
        Check.due("the next", Check.tell(t, HEAD + ";word 15 1;word 0 1;core;core;core;core;mark"), 4);
        Check.due("the next without a machine", Check.tell(t, "core"), -1);
        Check.due("its FAULT", t.fault(), 5);
    }
}
