/** Promises 1 to 7 and term I: THE TAPE, the text of a MACHINE and its FAULTS. */
public final class TextTests {
    static final String HEAD = "machine sets 1 ways 1 words 1 rule wins tries 1";

    public static void main(String[] args) {
        newObject();
        feeding();
        taking();
        takingAgain();
        forms();
        bounds();
        againAndMany();
        lacksAndOpen();
        leastNumber();
        faultStays();
        about();
        deeds();
        Check.end("TextTests");
    }

    /** Promise 1. */
    private static void newObject() {
        TriedLines t = new TriedLines();
        Check.due("new: trouble()", t.trouble(), 0);
        Check.due("new: fault()", t.fault(), 0);
        Check.due("new: where()", t.where(), -1);
        for (int what = 0; what < 4; what++) {
            Check.due("new: size(" + what + ")", t.size(what), 0);
        }
        Check.refused(t, "new: about(5)", t.about(5), 1);
        Check.refused(t, "new: deed(0, 0, 0)", t.deed(0, 0, 0), 1);
        Check.refused(t, "new: sharers(16)", t.sharers(16), 1);
        Check.refused(t, "new: tried(0, 1, 0, 0)", t.tried(0, 1, 0, 0), 1);
        Check.refused(t, "new: triedWord(0, 1, 0, 0)", t.triedWord(0, 1, 0, 0), 1);
        Check.due("new: done(0)", Check.done(t, 0), Check.THROWN);
    }

    /** Promise 2. */
    private static void feeding() {
        TriedLines t = new TriedLines();
        t.machine(5);
        for (int n = 20; n <= 900; n += 20) {
            Check.due("feed up to " + n, t.feed(0x20202020, 0x20202020, 0x20202020, 0x20202020, 0x20202020), n);
        }
        Check.due("feed beyond 900", t.feed(0x41414141, 0, 0, 0, 0), -1);
        Check.due("size(0) behind it", t.size(0), 900);
        Check.due("feed leaves trouble()", t.trouble(), 2);
        Check.due("machine(900) of blanks", t.machine(900), -1);
        Check.due("900 blanks: fault()", t.fault(), 1);
        Check.due("900 blanks: where()", t.where(), 900);
        Check.due("feed again", t.feed(-1, -1, -1, -1, -1), 20);
        Check.due("bytes of 255", t.machine(20), -1);
        Check.due("bytes of 255: where()", t.where(), 0);
        // 'c', 'o', 'r', 'e', the highest first, is LACKS; the other way round it would be FORM
        t.feed(0x636f7265, 0x20202020, 0x20202020, 0x20202020, 0x20202020);
        t.machine(4);
        Check.due("the highest byte first", t.fault(), 5);
    }

    /** Promise 3. */
    private static void taking() {
        TriedLines t = new TriedLines();
        Check.refused(t, "machine(1) of nothing", t.machine(1), 2);
        String text = HEAD + ";core;begin;put 0;end";
        int fed = Check.feed(t, text);
        Check.refused(t, "machine(-1)", t.machine(-1), 2);
        Check.refused(t, "machine beyond THE TAPE", t.machine(fed + 1), 2);
        Check.refused(t, "machine(MIN)", t.machine(Integer.MIN_VALUE), 2);
        Check.due("THE TAPE stays", t.size(0), fed);
        Check.due("machine()", t.machine(text.length()), 1);
        Check.due("THE TAPE is empty then", t.size(0), 0);
        Check.due("about(5)", t.about(5), 1);
        Check.feed(t, HEAD + ";core;core;plus 5");
        Check.due("machine() of a part", t.machine(HEAD.length() + 10), 2);
        Check.due("bytes behind n are no more", t.size(0), 0);
        Check.refused(t, "machine(1) of nothing again", t.machine(1), 2);
        // a TOKEN ends where the n bytes do
        Check.feed(t, HEAD + ";core;mark");
        Check.due("machine() up to mar", t.machine(HEAD.length() + 9), -1);
        Check.due("its where()", t.where(), HEAD.length() + 6);
        Check.feed(t, HEAD + ";core;plus 123");
        Check.due("machine() up to plus 12", t.machine(HEAD.length() + 13), 1);
        Check.due("its WHOLE", t.deed(0, 0, 1), 12);
        Check.good(HEAD + ";core", 1);
        Check.faulty("", 1, 0);
    }

    private static void takingAgain() {
        TriedLines t = Check.told("machine sets 1 ways 2 words 1 rule wins tries 2;word 0 4;core;begin;get 0;plus 1;put 0;end");
        t.rounds(3);
        t.keep();
        Check.feed(t, "core");
        Check.due("a FAULT", t.machine(4), -1);
        Check.due("a FAULT: trouble()", t.trouble(), 4);
        Check.due("a FAULT: THE TAPE is empty", t.size(0), 0);
        Check.due("a FAULT: the MACHINE stays", t.about(7), 3);
        Check.due("a FAULT: its deeds", t.core(0, 0), 3);
        Check.due("a FAULT: what is kept stays", t.size(3), 1);
        Check.due("another MACHINE", Check.tell(t, "machine sets 2 ways 1 words 2 rule age tries 3;word 1 9;core;core"), 2);
        Check.due("another: TIME", t.about(7), 0);
        Check.due("another: COMMITS", t.about(8), 0);
        Check.due("another: nothing kept", t.size(3), 0);
        Check.due("another: back()", t.back(), false);
        Check.due("another: CACHES empty", t.sharers(16) + t.sharers(0), 0);
        Check.due("another: traffic", t.traffic(0), 0);
        Check.due("another: word(0)", t.word(0), 0);
        Check.due("another: word(1)", t.word(1), 9);
        Check.due("another: words told", t.size(1), 1);
        Check.due("another: DEEDS", t.size(2), 0);
    }

    private static void forms() {
        Check.good("machine sets1ways2words4rule yields tries9;word63 999;core;begin;get63x;put 063 x;end;plus007;less 1;mark", 1);
        Check.good("   machine  sets 4 ways 4 words 2 rule age tries 1 ; core  ", 1);
        Check.faulty(1, "^Machine");
        Check.faulty(1, "^sets 1");
        Check.faulty(1, "^7");
        Check.faulty(1, "^;core");
        Check.faulty(1, "^x");
        Check.faulty(1, "machine ^ways 1");
        Check.faulty(1, "machine sets^");
        Check.faulty(1, "machine sets   ^");
        Check.faulty(1, "machine sets ^x");
        Check.faulty(1, "machine sets ^0001 ways 1");
        Check.faulty(1, "machine sets 1 ways 1 words 1 rule ^lose tries 1");
        Check.faulty(1, "machine sets 1 ways 1 words 1 rule ^1 tries 1");
        Check.faulty(1, "machine sets 1 ways 1 words 1 ^tries 1 rule wins");
        Check.faulty(1, HEAD + ";^");
        Check.faulty(1, HEAD + " ^x;core");
        Check.faulty(1, HEAD + ";^;core");
        Check.faulty(1, HEAD + ";core;^");
        Check.faulty(1, HEAD + ";core ^1");
        Check.faulty(1, HEAD + ";core;plus^");
        Check.faulty(1, HEAD + ";core;plus ^;mark");
        Check.faulty(1, HEAD + ";core;plus 5 ^x");
        Check.faulty(1, HEAD + ";core;mark ^x");
        Check.faulty(1, HEAD + ";core;begin;get ^x 5;end");
        Check.faulty(1, HEAD + ";core;begin;get 5 x ^x;end");
        Check.faulty(1, HEAD + ";core;begin;get 5 ^y;end");
        Check.faulty(1, HEAD + ";core;begin;get 5 ^end");
        Check.faulty(1, HEAD + ";core;^beginend");
        Check.faulty(1, HEAD + ";core;^markz");
        Check.faulty(1, HEAD + ";core;^amark");
        Check.faulty(1, HEAD + ";core;plus 90^/");
        Check.faulty(1, HEAD + ";core;plus 90^:");
        Check.faulty(1, HEAD + ";core^{");
        Check.faulty(1, HEAD + ";core^`");
        Check.faulty(1, HEAD + ";core;^plusses");
        Check.faulty(1, HEAD + ";core;plus ^1234");
        Check.faulty(1, HEAD + ";core;plus 12^,");
        Check.faulty(1, HEAD + ";core^\n");
        Check.faulty(1, HEAD + ";core^\u00e9");
        Check.faulty(1, HEAD + ";word 1^");
        Check.faulty(1, HEAD + ";word 1 2 ^3");
    }

    private static void bounds() {
        for (int sets = 0; sets < 6; sets++) {
            boolean fits = sets == 1 || sets == 2 || sets == 4;
            String from = "machine sets ";
            if (fits) {
                Check.good(from + sets + " ways 1 words 1 rule wins tries 1;core", 1);
                Check.good("machine sets 1 ways 1 words " + sets + " rule wins tries 1;core", 1);
            } else {
                Check.faulty(2, from + "^" + sets + " ways 1 words 1 rule wins tries 1;core");
                Check.faulty(2, "machine sets 1 ways 1 words ^" + sets + " rule wins tries 1;core");
            }
        }
        Check.faulty(2, "machine sets 1 ways ^0");
        Check.good("machine sets 1 ways 4 words 1 rule wins tries 9;core", 1);
        Check.faulty(2, "machine sets 1 ways ^5 words 1");
        Check.faulty(2, "machine sets 1 ways 1 words 1 rule wins tries ^0;core");
        Check.faulty(2, "machine sets 1 ways 1 words 1 rule wins tries ^10;core");
        Check.good(HEAD + ";word 15 0;core", 1);
        Check.faulty(2, HEAD + ";word ^16 0;core");
        Check.faulty(2, "machine sets 1 ways 1 words 2 rule wins tries 1;word ^32 0;core");
        Check.faulty(2, "machine sets 1 ways 1 words 4 rule wins tries 1;word ^64 0;core");
        Check.good(HEAD + ";core;begin;get 15;put 15 x;end;plus 0;less 999", 1);
        Check.faulty(2, HEAD + ";core;begin;get ^16;end");
        Check.faulty(2, HEAD + ";core;begin;put ^999 x;end");
        Check.faulty(2, HEAD + ";core;begin;put ^16 17;end");
    }

    private static void againAndMany() {
        Check.faulty(3, HEAD + ";^" + HEAD);
        Check.faulty(3, HEAD + ";core;^machine 9");
        Check.faulty(3, HEAD + ";word 3 1;word 4 1;word ^3 x");
        Check.faulty(3, HEAD + ";word 3 1;word ^003 1;core");
        StringBuilder words = new StringBuilder(HEAD);
        for (int i = 0; i < 12; i++) {
            words.append(";word ").append(i).append(" 1");
        }
        Check.good(words + ";core", 1);
        Check.faulty(4, words + ";^word 12 1;core");
        Check.faulty(4, words + ";^word 0 1;core");
        Check.faulty(4, words + ";core;^word !");
        Check.good(HEAD + ";core".repeat(4), 4);
        Check.faulty(4, HEAD + ";core".repeat(4) + ";^core");
        Check.good(HEAD + ";core" + ";mark".repeat(24) + ";core" + ";mark".repeat(24), 2);
        Check.faulty(4, HEAD + ";core" + ";mark".repeat(24) + ";^mark");
        Check.faulty(4, HEAD + ";core;mark;core" + ";mark".repeat(24) + ";^plus");
        Check.faulty(4, HEAD + ";core;begin" + ";get 0".repeat(23) + ";^end");
    }

    private static void lacksAndOpen() {
        Check.faulty(5, "^core");
        Check.faulty(5, "^word 0 0;" + HEAD);
        Check.faulty(5, "^get 99");
        Check.faulty(5, " ^begin;end");
        Check.faulty(5, HEAD + ";^mark;core");
        Check.faulty(5, HEAD + ";^begin;core");
        Check.faulty(5, HEAD + ";^get 0;core");
        Check.faulty(5, HEAD + "^");
        Check.faulty(5, HEAD + ";word 0 1  ^");
        Check.faulty(6, HEAD + ";core;begin;^begin");
        Check.faulty(6, HEAD + ";core;begin;mark;^begin;end");
        Check.faulty(6, HEAD + ";core;^end");
        Check.faulty(6, HEAD + ";core;begin;end;^end");
        Check.faulty(6, HEAD + ";core;^get 0");
        Check.faulty(6, HEAD + ";core;begin;end;^put 99");
        Check.faulty(6, HEAD + ";core;begin;^core");
        Check.faulty(6, HEAD + ";core;begin^");
        Check.faulty(6, HEAD + ";core;begin;end;begin;get 5 x ^");
        Check.good(HEAD + ";core;begin;end;begin;word 1 1;end;word 2 1", 1);
    }

    /** Of FAULTS at one place the least number. */
    private static void leastNumber() {
        Check.faulty(1, HEAD + ";core;begin;^");
        Check.faulty(1, HEAD + ";^");
        Check.faulty(5, HEAD + ";^end;core");
        Check.faulty(4, HEAD + ";core".repeat(4) + ";begin;^core");
        Check.faulty(4, HEAD + ";core" + ";mark".repeat(24) + ";^end");
        Check.faulty(4, HEAD + ";core" + ";mark".repeat(23) + ";begin;^begin");
        Check.faulty(1, "^beginning");
    }

    /** Promises 4 and 5. */
    private static void faultStays() {
        TriedLines t = new TriedLines();
        Check.tell(t, "machine sets 3");
        Check.due("fault()", t.fault(), 2);
        Check.due("where()", t.where(), 13);
        t.feed(0, 0, 0, 0, 0);
        t.size(9);
        Check.done(t, 0);
        Check.due("where() behind calls that may not be refused", t.where(), 13);
        Check.due("trouble() behind them", t.trouble(), 4);
        t.about(0);
        Check.due("where() behind another refusal", t.where(), -1);
        Check.due("fault() behind it", t.fault(), 2);
        t.machine(99);
        Check.due("fault() behind machine() refused by 2", t.fault(), 2);
        Check.due("where() behind machine() refused by 2", t.where(), -1);
        t.machine(20);
        Check.due("fault() of the next", t.fault(), 1);
        Check.due("where() of the next", t.where(), 0);
        Check.tell(t, HEAD + ";core");
        Check.due("fault() without one", t.fault(), 0);
        Check.due("where() without one", t.where(), -1);
    }

    /** Promise 6. */
    private static void about() {
        TriedLines t = Check.told("machine sets 4 ways 3 words 2 rule yields tries 7;core;begin;end;core;core");
        int[] due = {4, 3, 2, 2, 7, 3, 32, 0, 0};
        for (int what = 0; what < due.length; what++) {
            Check.due("about(" + what + ")", t.about(what), due[what]);
        }
        t.rounds(2);
        Check.due("about(7) then", t.about(7), 2);
        Check.due("about(8) then", t.about(8), 1);
        Check.refused(t, "about(9)", t.about(9), 1);
        Check.refused(t, "about(-1)", t.about(-1), 1);
        Check.due("rule wins", Check.told(HEAD + ";core").about(3), 0);
        Check.due("rule age", Check.told("machine sets 1 ways 1 words 4 rule age tries 1;core").about(3), 1);
        Check.due("ADDRESSES of 4", Check.told("machine sets 1 ways 1 words 4 rule age tries 1;core").about(6), 64);
    }

    /** Promise 7. */
    private static void deeds() {
        TriedLines t = Check.told(HEAD + ";core;core;begin;mark;get 3 x;put 4;plus 5;less 999;end");
        int[][] due = {{0, -2, 0}, {2, -2, 0}, {3, 3, 1}, {4, 4, 0}, {5, 5, 0}, {6, 999, 0}, {1, -2, 0}};
        for (int i = 0; i < due.length; i++) {
            for (int what = 0; what < 3; what++) {
                Check.due("deed(1, " + i + ", " + what + ")", t.deed(1, i, what), due[i][what]);
            }
        }
        Check.due("trouble()", t.trouble(), 0);
        Check.refused(t, "deed(1, 7, 0)", t.deed(1, 7, 0), 1);
        Check.refused(t, "deed(1, -1, 0)", t.deed(1, -1, 0), 1);
        Check.refused(t, "deed(0, 0, 0)", t.deed(0, 0, 0), 1);
        Check.refused(t, "deed(2, 0, 0)", t.deed(2, 0, 0), 1);
        Check.refused(t, "deed(-1, 0, 0)", t.deed(-1, 0, 0), 1);
        Check.refused(t, "deed(1, 0, 3)", t.deed(1, 0, 3), 1);
        Check.refused(t, "deed(1, 0, -1)", t.deed(1, 0, -1), 1);
    }
}
