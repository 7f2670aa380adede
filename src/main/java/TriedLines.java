import java.util.NoSuchElementException;

/** Cores that try deeds in their caches; ../shared/DOC.md tells what each call promises. */
public final class TriedLines {
    public static final int NONE = -1;

    private static final int WITHOUT = -2;

    private static final int TAPE_ROOM = 900;
    private static final int FED_AT_ONCE = 20;

    private static final int MOST_CORES = 4;
    private static final int MOST_DEEDS = 24;
    private static final int MOST_WORDS_TOLD = 12;
    private static final int MEMORY_LINES = 16;
    private static final int LOCK_LINE = 16;
    private static final int LONGEST_LINE = 4;
    private static final int MOST_ADDRESSES = MEMORY_LINES * LONGEST_LINE;
    // The LOCK's line has words in here too, so that it goes the way of every other line.
    private static final int MEMORY_ROOM = (MEMORY_LINES + 1) * LONGEST_LINE;
    private static final int MOST_PLACES = 16;
    // A COMMIT takes two DEEDS at least, and none is done twice.
    private static final int MOST_COMMITS = MOST_CORES * MOST_DEEDS / 2;
    private static final int COMMIT_PARTS = 4;

    private static final int VALUES = 1000;

    private static final int RULE_WINS = 0;
    private static final int RULE_AGE = 1;
    private static final int RULE_YIELDS = 2;
    private static final int MOST_TRIES = 9;

    private static final int BEGIN = 0;
    private static final int END = 1;
    private static final int MARK = 2;
    private static final int GET = 3;
    private static final int PUT = 4;
    private static final int PLUS = 5;
    private static final int LESS = 6;
    private static final int MACHINE_LINE = 7;
    private static final int WORD_LINE = 8;
    private static final int CORE_LINE = 9;

    private static final int FAULT_FORM = 1;
    private static final int FAULT_BOUNDS = 2;
    private static final int FAULT_AGAIN = 3;
    private static final int FAULT_MANY = 4;
    private static final int FAULT_LACKS = 5;
    private static final int FAULT_OPEN = 6;

    private static final int SHARED = 1;
    private static final int ALONE = 2;
    private static final int CHANGED = 3;

    private static final int OUT = 0;
    private static final int TRYING = 1;
    private static final int LOCKING = 2;

    private static final int BY_CONFLICT = 0;
    private static final int BY_CAPACITY = 1;
    private static final int BY_INTERRUPT = 2;
    private static final int BY_LOCK = 3;
    private static final int COMMITS = 4;
    private static final int LOCK_COMMITS = 5;
    private static final int WAITED = 6;
    private static final int COUNTS = 7;

    private static final int CAME = 0;
    private static final int WRITTEN = 1;
    private static final int TAKEN = 2;
    private static final int TRAFFICS = 3;

    private static final int NO_STEP = 0;
    private static final int DEED_DONE = 1;
    private static final int WAITS = 2;
    private static final int TRY_ENDS = 3;

    private static final int MOST_ROUNDS = 200;
    private static final int MOST_DRAWS = 1000;
    private static final int TRIED_DRAWS = 2000;
    private static final int SEEDS = 65536;

    private static final int NONE_SUCH = 1;
    private static final int BAD_NUMBER = 2;
    private static final int FAULTY = 4;
    private static final int NOT_SO = 5;

    /** The MACHINE as its text tells it. */
    private static final class Plan {
        private int sets;
        private int ways;
        private int perLine;
        private int rule;
        private int tries;
        private int cores;
        private int told;
        private final int[] lengths = new int[MOST_CORES];
        private final int[] sorts = new int[MOST_CORES * MOST_DEEDS];
        private final int[] wholes = new int[MOST_CORES * MOST_DEEDS];
        private final boolean[] indexed = new boolean[MOST_CORES * MOST_DEEDS];
        private final int[] first = new int[MOST_ADDRESSES];

        private void clear() {
            sets = 0;
            ways = 0;
            perLine = 0;
            rule = 0;
            tries = 0;
            cores = 0;
            told = 0;
            for (int c = 0; c < MOST_CORES; c++) {
                lengths[c] = 0;
            }
            for (int i = 0; i < MOST_ADDRESSES; i++) {
                first[i] = 0;
            }
        }

        private void copyFrom(Plan other) {
            sets = other.sets;
            ways = other.ways;
            perLine = other.perLine;
            rule = other.rule;
            tries = other.tries;
            cores = other.cores;
            told = other.told;
            System.arraycopy(other.lengths, 0, lengths, 0, MOST_CORES);
            System.arraycopy(other.sorts, 0, sorts, 0, MOST_CORES * MOST_DEEDS);
            System.arraycopy(other.wholes, 0, wholes, 0, MOST_CORES * MOST_DEEDS);
            System.arraycopy(other.first, 0, first, 0, MOST_ADDRESSES);
            for (int i = 0; i < MOST_CORES * MOST_DEEDS; i++) {
                indexed[i] = other.indexed[i];
            }
        }

        private int addresses() {
            return MEMORY_LINES * perLine;
        }

        private boolean hasCore(int c) {
            return c >= 0 && c < cores && c < MOST_CORES;
        }

        private boolean hasAddress(int address) {
            return address >= 0 && address < addresses() && address < MOST_ADDRESSES;
        }

        private boolean hasDeed(int c, int i) {
            return c >= 0 && c < cores && c < MOST_CORES && i >= 0 && i < lengths[c] && i < MOST_DEEDS;
        }

        private int sortOf(int c, int i) {
            return hasDeed(c, i) ? sorts[c * MOST_DEEDS + i] : NONE;
        }

        private int wholeOf(int c, int i) {
            return hasDeed(c, i) ? wholes[c * MOST_DEEDS + i] : WITHOUT;
        }

        private boolean isIndexed(int c, int i) {
            return hasDeed(c, i) && indexed[c * MOST_DEEDS + i];
        }

        private int deedsInAll() {
            int all = 0;
            for (int c = 0; c < MOST_CORES; c++) {
                all += lengths[c];
            }
            return all;
        }

        /** The ADDRESS that a get or put means while X is x. */
        private int addressOf(int c, int i, int x) {
            int address = wholeOf(c, i);
            int all = addresses();
            if (isIndexed(c, i) && all > 0) {
                address = Math.floorMod(address + x, all);
            }
            return hasAddress(address) ? address : 0;
        }

        private int lineOf(int address) {
            return perLine > 0 ? address / perLine : 0;
        }

        private int offsetOf(int address) {
            return perLine > 0 ? address % perLine : 0;
        }

        private int setOf(int line) {
            return sets > 0 ? line % sets : 0;
        }

        private void addWord(int address, int value) {
            if (hasAddress(address)) {
                first[address] = value;
                told++;
            }
        }

        private void addDeed(int sort, int whole, boolean withX) {
            int c = cores - 1;
            if (hasCore(c) && lengths[c] < MOST_DEEDS) {
                int at = c * MOST_DEEDS + lengths[c];
                sorts[at] = sort;
                wholes[at] = whole;
                indexed[at] = withX;
                lengths[c]++;
            }
        }
    }

    /** Reads the text of a MACHINE from the left, up to its first FAULT. */
    private static final class TextReader {
        private static final int AT_END = 0;
        private static final int NAME = 1;
        private static final int WHOLE = 2;
        private static final int SEMICOLON = 3;
        private static final int NO_TOKEN = 4;
        private static final int LONGEST_NAME = 7;
        private static final int LONGEST_WHOLE = 3;

        private final Plan plan;
        private final int[] bytes;
        private final boolean[] given = new boolean[MOST_ADDRESSES];
        private int end;
        private int kind;
        private int start;
        private int next;
        private int whole;
        private boolean hasMachine;
        private boolean open;
        private int faultNumber;
        private int faultPlace;

        private TextReader(Plan plan, int[] bytes) {
            this.plan = plan;
            this.bytes = bytes;
        }

        /** Whether the first n bytes are a MACHINE; the plan holds it then. */
        private boolean readText(int n) {
            plan.clear();
            end = Math.max(0, Math.min(n, bytes.length));
            next = 0;
            hasMachine = false;
            open = false;
            faultNumber = 0;
            faultPlace = 0;
            for (int i = 0; i < MOST_ADDRESSES; i++) {
                given[i] = false;
            }
            advance();
            for (int i = 0; i <= TAPE_ROOM; i++) {
                if (!readLine()) {
                    return false;
                }
                if (kind == AT_END) {
                    return readEnd();
                }
                if (kind != SEMICOLON) {
                    return fail(FAULT_FORM, start);
                }
                advance();
            }
            return fail(FAULT_FORM, start);
        }

        private boolean fail(int number, int place) {
            faultNumber = number;
            faultPlace = place;
            return false;
        }

        private boolean readEnd() {
            if (plan.cores == 0) {
                return fail(FAULT_LACKS, end);
            }
            if (open) {
                return fail(FAULT_OPEN, end);
            }
            return true;
        }

        private void advance() {
            start = next;
            while (start < end && bytes[start] == ' ') {
                start++;
            }
            next = start;
            if (start >= end) {
                kind = AT_END;
                return;
            }
            kind = kindOf(bytes[start]);
            next++;
            if (kind != NAME && kind != WHOLE) {
                return;
            }
            while (next < end && kindOf(bytes[next]) == kind) {
                next++;
            }
            if (next - start > (kind == NAME ? LONGEST_NAME : LONGEST_WHOLE)) {
                kind = NO_TOKEN;
            } else if (kind == WHOLE) {
                whole = 0;
                for (int i = start; i < next; i++) {
                    whole = whole * 10 + bytes[i] - '0';
                }
            }
        }

        private static int kindOf(int b) {
            if (b >= 'a' && b <= 'z') {
                return NAME;
            }
            if (b >= '0' && b <= '9') {
                return WHOLE;
            }
            return b == ';' ? SEMICOLON : NO_TOKEN;
        }

        private boolean isName(String name) {
            if (kind != NAME || next - start != name.length()) {
                return false;
            }
            for (int i = 0; i < name.length(); i++) {
                if (start + i >= bytes.length || bytes[start + i] != name.charAt(i)) {
                    return false;
                }
            }
            return true;
        }

        private boolean takeName(String name) {
            if (!isName(name)) {
                return fail(FAULT_FORM, start);
            }
            advance();
            return true;
        }

        private boolean takeWhole(int least, int most) {
            if (kind != WHOLE) {
                return fail(FAULT_FORM, start);
            }
            if (whole < least || whole > most) {
                return fail(FAULT_BOUNDS, start);
            }
            advance();
            return true;
        }

        /** The number that the machine LINE tells behind a name; NONE if a FAULT is met. */
        private int takeSetting(String name, int most, boolean powersOnly) {
            if (!takeName(name)) {
                return NONE;
            }
            int value = whole;
            if (kind == WHOLE && powersOnly && value == 3) {
                fail(FAULT_BOUNDS, start);
                return NONE;
            }
            return takeWhole(1, most) ? value : NONE;
        }

        private int sortHere() {
            if (isName("begin")) {
                return BEGIN;
            }
            if (isName("end")) {
                return END;
            }
            if (isName("mark")) {
                return MARK;
            }
            if (isName("get")) {
                return GET;
            }
            if (isName("put")) {
                return PUT;
            }
            if (isName("plus")) {
                return PLUS;
            }
            if (isName("less")) {
                return LESS;
            }
            if (isName("machine")) {
                return MACHINE_LINE;
            }
            if (isName("word")) {
                return WORD_LINE;
            }
            return isName("core") ? CORE_LINE : NONE;
        }

        private boolean readLine() {
            int sort = sortHere();
            if (sort == NONE) {
                return fail(FAULT_FORM, start);
            }
            if (sort == MACHINE_LINE) {
                return readMachine();
            }
            if (!hasMachine) {
                return fail(FAULT_LACKS, start);
            }
            if (sort == WORD_LINE) {
                return readWord();
            }
            return sort == CORE_LINE ? readCore() : readDeed(sort);
        }

        private boolean readMachine() {
            if (hasMachine) {
                return fail(FAULT_AGAIN, start);
            }
            hasMachine = true;
            advance();
            plan.sets = takeSetting("sets", 4, true);
            if (plan.sets == NONE) {
                return false;
            }
            plan.ways = takeSetting("ways", 4, false);
            if (plan.ways == NONE) {
                return false;
            }
            plan.perLine = takeSetting("words", LONGEST_LINE, true);
            if (plan.perLine == NONE || !takeName("rule") || !readRule()) {
                return false;
            }
            plan.tries = takeSetting("tries", MOST_TRIES, false);
            return plan.tries != NONE;
        }

        private boolean readRule() {
            if (isName("wins")) {
                plan.rule = RULE_WINS;
            } else if (isName("age")) {
                plan.rule = RULE_AGE;
            } else if (isName("yields")) {
                plan.rule = RULE_YIELDS;
            } else {
                return fail(FAULT_FORM, start);
            }
            advance();
            return true;
        }

        private boolean readWord() {
            if (plan.told >= MOST_WORDS_TOLD) {
                return fail(FAULT_MANY, start);
            }
            advance();
            int address = whole;
            int at = start;
            if (!takeWhole(0, plan.addresses() - 1)) {
                return false;
            }
            if (!plan.hasAddress(address) || given[address]) {
                return fail(FAULT_AGAIN, at);
            }
            int value = whole;
            if (!takeWhole(0, VALUES - 1)) {
                return false;
            }
            given[address] = true;
            plan.addWord(address, value);
            return true;
        }

        private boolean readCore() {
            if (plan.cores >= MOST_CORES) {
                return fail(FAULT_MANY, start);
            }
            if (open) {
                return fail(FAULT_OPEN, start);
            }
            plan.cores++;
            advance();
            return true;
        }

        private boolean readDeed(int sort) {
            int c = plan.cores - 1;
            if (plan.hasCore(c) && plan.lengths[c] >= MOST_DEEDS) {
                return fail(FAULT_MANY, start);
            }
            if (!plan.hasCore(c)) {
                return fail(FAULT_LACKS, start);
            }
            boolean needsOpen = sort == END || sort == GET || sort == PUT;
            if (sort == BEGIN && open || needsOpen && !open) {
                return fail(FAULT_OPEN, start);
            }
            if (sort == BEGIN || sort == END) {
                open = sort == BEGIN;
            }
            advance();
            return readRest(sort);
        }

        /** What stands behind the name of a DEED. */
        private boolean readRest(int sort) {
            boolean onWord = sort == GET || sort == PUT;
            if (!onWord && sort != PLUS && sort != LESS) {
                plan.addDeed(sort, WITHOUT, false);
                return true;
            }
            int value = whole;
            if (!takeWhole(0, onWord ? plan.addresses() - 1 : VALUES - 1)) {
                return false;
            }
            boolean withX = onWord && isName("x");
            if (withX) {
                advance();
            }
            plan.addDeed(sort, value, withX);
            return true;
        }
    }

    /** The CACHE of a core. */
    private static final class Cache {
        private final Plan plan;
        private final int[] lines = new int[MOST_PLACES];
        private final int[] states = new int[MOST_PLACES];
        private final boolean[] readMarks = new boolean[MOST_PLACES];
        private final boolean[] writeMarks = new boolean[MOST_PLACES];
        private final int[] used = new int[MOST_PLACES];
        private final int[] words = new int[MOST_PLACES * LONGEST_LINE];

        private Cache(Plan plan) {
            this.plan = plan;
        }

        private void clear() {
            for (int p = 0; p < MOST_PLACES; p++) {
                dropLine(p);
            }
        }

        private void copyFrom(Cache other) {
            System.arraycopy(other.lines, 0, lines, 0, MOST_PLACES);
            System.arraycopy(other.states, 0, states, 0, MOST_PLACES);
            System.arraycopy(other.used, 0, used, 0, MOST_PLACES);
            System.arraycopy(other.words, 0, words, 0, MOST_PLACES * LONGEST_LINE);
            for (int p = 0; p < MOST_PLACES; p++) {
                readMarks[p] = other.readMarks[p];
                writeMarks[p] = other.writeMarks[p];
            }
        }

        private void dropLine(int p) {
            if (p >= 0 && p < MOST_PLACES) {
                lines[p] = WITHOUT;
                states[p] = 0;
                readMarks[p] = false;
                writeMarks[p] = false;
                used[p] = WITHOUT;
            }
        }

        /** The PLACE with a LINE; NONE without one. */
        private int find(int line) {
            for (int p = 0; p < MOST_PLACES; p++) {
                if (lines[p] == line) {
                    return p;
                }
            }
            return NONE;
        }

        /** The PLACE into which a LINE would come; NONE without one. */
        private int findRoom(int line) {
            int from = plan.setOf(line) * plan.ways;
            int least = NONE;
            for (int p = from; p < from + plan.ways && p < MOST_PLACES; p++) {
                if (p < 0) {
                    continue;
                }
                if (lines[p] == WITHOUT) {
                    return p;
                }
                if (!readMarks[p] && !writeMarks[p] && (least == NONE || used[p] < used[least])) {
                    least = p;
                }
            }
            return least;
        }

        private int markedLines(boolean byWrite) {
            int bits = 0;
            for (int p = 0; p < MOST_PLACES; p++) {
                if (lines[p] >= 0 && (byWrite ? writeMarks[p] : readMarks[p])) {
                    bits |= 1 << lines[p];
                }
            }
            return bits;
        }

        /** Takes all marks away; LINES with a WRITE mark go too, if they are to. */
        private void unmark(boolean dropWritten) {
            for (int p = 0; p < MOST_PLACES; p++) {
                if (dropWritten && writeMarks[p]) {
                    lines[p] = WITHOUT;
                    states[p] = 0;
                    used[p] = WITHOUT;
                }
                readMarks[p] = false;
                writeMarks[p] = false;
            }
        }

        private int wordIn(int p, int offset) {
            int at = p * LONGEST_LINE + offset;
            return at >= 0 && at < words.length ? words[at] : 0;
        }

        private void setWord(int p, int offset, int value) {
            int at = p * LONGEST_LINE + offset;
            if (at >= 0 && at < words.length) {
                words[at] = value;
            }
        }
    }

    /** What a core is at between two STEPS, and what has come of its TRIES. */
    private static final class Core {
        private int next;
        private int begun;
        private int a;
        private int x;
        private int state;
        private int lost;
        private int age;
        private final int[] counts = new int[COUNTS];

        private void clear() {
            next = 0;
            begun = 0;
            a = 0;
            x = 0;
            state = OUT;
            lost = 0;
            age = WITHOUT;
            for (int i = 0; i < COUNTS; i++) {
                counts[i] = 0;
            }
        }

        private void copyFrom(Core other) {
            next = other.next;
            begun = other.begun;
            a = other.a;
            x = other.x;
            state = other.state;
            lost = other.lost;
            age = other.age;
            System.arraycopy(other.counts, 0, counts, 0, COUNTS);
        }
    }

    /** MEMORY, CACHES and cores while STEPS are done. */
    private static final class Run {
        private final Plan plan;
        private final int[] memory = new int[MEMORY_ROOM];
        private final Cache[] caches = new Cache[MOST_CORES];
        private final Core[] cores = new Core[MOST_CORES];
        private final int[] traffic = new int[TRAFFICS];
        private final int[] commits = new int[MOST_COMMITS * COMMIT_PARTS];
        private int committed;
        private int rule;
        private int tries;
        private int time;
        private int holder;
        private int ended;

        private Run(Plan plan) {
            this.plan = plan;
            for (int c = 0; c < MOST_CORES; c++) {
                caches[c] = new Cache(plan);
                cores[c] = new Core();
            }
        }

        private void startOver(int byRule, int byTries) {
            rule = byRule;
            tries = byTries;
            committed = 0;
            time = 0;
            holder = WITHOUT;
            ended = 0;
            for (int i = 0; i < MEMORY_ROOM; i++) {
                memory[i] = i < MOST_ADDRESSES ? plan.first[i] : 0;
            }
            for (int i = 0; i < TRAFFICS; i++) {
                traffic[i] = 0;
            }
            for (int c = 0; c < MOST_CORES; c++) {
                caches[c].clear();
                cores[c].clear();
            }
        }

        private void copyFrom(Run other) {
            rule = other.rule;
            tries = other.tries;
            committed = other.committed;
            time = other.time;
            holder = other.holder;
            ended = other.ended;
            System.arraycopy(other.memory, 0, memory, 0, MEMORY_ROOM);
            System.arraycopy(other.traffic, 0, traffic, 0, TRAFFICS);
            System.arraycopy(other.commits, 0, commits, 0, MOST_COMMITS * COMMIT_PARTS);
            for (int c = 0; c < MOST_CORES; c++) {
                caches[c].copyFrom(other.caches[c]);
                cores[c].copyFrom(other.cores[c]);
            }
        }

        private boolean hasDeedsLeft(int c) {
            return plan.hasCore(c) && cores[c].next < plan.lengths[c];
        }

        private boolean isAllDone() {
            for (int c = 0; c < MOST_CORES; c++) {
                if (hasDeedsLeft(c)) {
                    return false;
                }
            }
            return true;
        }

        /** A STEP of a core; ended tells whose TRIES it ended. */
        private int takeStep(int c) {
            ended = 0;
            if (!hasDeedsLeft(c)) {
                return NO_STEP;
            }
            time++;
            Core core = cores[c];
            int whole = plan.wholeOf(c, core.next);
            int outcome = DEED_DONE;
            switch (plan.sortOf(c, core.next)) {
                case BEGIN:
                    outcome = doBegin(c, core);
                    break;
                case END:
                    doEnd(c, core);
                    break;
                case MARK:
                    core.x = core.a;
                    break;
                case GET:
                    outcome = doGet(c, core);
                    break;
                case PUT:
                    outcome = doPut(c, core);
                    break;
                case PLUS:
                    core.a = Math.floorMod(core.a + whole, VALUES);
                    break;
                default:
                    core.a = Math.floorMod(core.a - whole, VALUES);
                    break;
            }
            if (outcome == DEED_DONE) {
                core.next++;
            } else if (outcome == WAITS) {
                core.counts[WAITED]++;
            }
            return outcome;
        }

        private int doBegin(int c, Core core) {
            if (holder != WITHOUT) {
                return WAITS;
            }
            if (core.lost < tries) {
                int outcome = reach(c, LOCK_LINE, false);
                if (outcome != DEED_DONE) {
                    return outcome;
                }
                markLine(c, LOCK_LINE, false);
                core.state = TRYING;
            } else {
                endTries(marking(c, LOCK_LINE, false), BY_LOCK);
                int outcome = reach(c, LOCK_LINE, true);
                if (outcome != DEED_DONE) {
                    return outcome;
                }
                holder = c;
                core.state = LOCKING;
            }
            core.a = 0;
            core.x = 0;
            core.begun = core.next;
            if (core.age == WITHOUT) {
                core.age = time;
            }
            return DEED_DONE;
        }

        private int doGet(int c, Core core) {
            int address = plan.addressOf(c, core.next, core.x);
            int line = plan.lineOf(address);
            int outcome = reach(c, line, false);
            if (outcome != DEED_DONE) {
                return outcome;
            }
            if (core.state == TRYING) {
                markLine(c, line, false);
            }
            core.a = caches[c].wordIn(caches[c].find(line), plan.offsetOf(address));
            return DEED_DONE;
        }

        private int doPut(int c, Core core) {
            Cache cache = caches[c];
            int address = plan.addressOf(c, core.next, core.x);
            int line = plan.lineOf(address);
            int before = cache.find(line);
            boolean unsaved = before != NONE && cache.states[before] == CHANGED && !cache.writeMarks[before];
            int outcome = reach(c, line, true);
            if (outcome != DEED_DONE) {
                return outcome;
            }
            int p = cache.find(line);
            if (core.state == TRYING) {
                // Words committed before would be lost with the LINE, if this TRY ended.
                if (unsaved) {
                    writeBack(cache, p);
                }
                markLine(c, line, true);
            }
            cache.setWord(p, plan.offsetOf(address), core.a);
            return DEED_DONE;
        }

        private void doEnd(int c, Core core) {
            boolean withLock = core.state == LOCKING;
            if (withLock) {
                holder = WITHOUT;
                core.counts[LOCK_COMMITS]++;
            } else {
                caches[c].unmark(false);
            }
            core.counts[COMMITS]++;
            if (committed < MOST_COMMITS) {
                int at = committed * COMMIT_PARTS;
                commits[at] = c;
                commits[at + 1] = core.begun;
                commits[at + 2] = time;
                commits[at + 3] = withLock ? 1 : 0;
                committed++;
            }
            core.lost = 0;
            core.age = WITHOUT;
            core.state = OUT;
        }

        /** TO SEE a LINE, or TO OWN it. */
        private int reach(int c, int line, boolean toOwn) {
            int outcome = ask(c, line, toOwn);
            if (outcome != DEED_DONE) {
                return outcome;
            }
            Cache cache = caches[c];
            int p = cache.find(line);
            boolean comes = p == NONE;
            if (comes) {
                p = cache.findRoom(line);
                if (p == NONE) {
                    endTries(1 << c, BY_CAPACITY);
                    return TRY_ENDS;
                }
                if (cache.states[p] == CHANGED) {
                    writeBack(cache, p);
                }
                cache.dropLine(p);
            }
            boolean elsewhere = changeOthers(c, line, toOwn);
            if (comes) {
                bringLine(cache, p, line);
                cache.states[p] = elsewhere ? SHARED : ALONE;
            }
            if (toOwn) {
                cache.states[p] = CHANGED;
            }
            cache.used[p] = time;
            return DEED_DONE;
        }

        /** Asks those whose marks are in the way; DEED_DONE if the way is free then. */
        private int ask(int c, int line, boolean toOwn) {
            int asked = marking(c, line, !toOwn);
            if (asked == 0) {
                return DEED_DONE;
            }
            if (rule == RULE_YIELDS) {
                endTries(1 << c, BY_CONFLICT);
                return TRY_ENDS;
            }
            if (rule == RULE_AGE) {
                for (int o = 0; o < MOST_CORES; o++) {
                    if ((asked >> o & 1) == 1 && cores[o].age <= cores[c].age) {
                        return WAITS;
                    }
                }
            }
            endTries(asked, BY_CONFLICT);
            return DEED_DONE;
        }

        /** The other cores that have a LINE with a mark, as bits. */
        private int marking(int c, int line, boolean byWriteOnly) {
            int bits = 0;
            for (int o = 0; o < MOST_CORES; o++) {
                int p = o == c ? NONE : caches[o].find(line);
                if (p != NONE && (caches[o].writeMarks[p] || !byWriteOnly && caches[o].readMarks[p])) {
                    bits |= 1 << o;
                }
            }
            return bits;
        }

        /** What a core's asking does to the LINE elsewhere; whether another one has it then. */
        private boolean changeOthers(int c, int line, boolean toOwn) {
            boolean elsewhere = false;
            for (int o = 0; o < MOST_CORES; o++) {
                int p = o == c ? NONE : caches[o].find(line);
                if (p == NONE) {
                    continue;
                }
                if (caches[o].states[p] == CHANGED) {
                    writeBack(caches[o], p);
                }
                if (toOwn) {
                    caches[o].dropLine(p);
                    traffic[TAKEN]++;
                } else {
                    caches[o].states[p] = SHARED;
                    elsewhere = true;
                }
            }
            return elsewhere;
        }

        private void bringLine(Cache cache, int p, int line) {
            cache.lines[p] = line;
            for (int k = 0; k < plan.perLine; k++) {
                int at = line * plan.perLine + k;
                cache.setWord(p, k, at >= 0 && at < MEMORY_ROOM ? memory[at] : 0);
            }
            traffic[CAME]++;
        }

        private void writeBack(Cache cache, int p) {
            if (p < 0 || p >= MOST_PLACES) {
                return;
            }
            for (int k = 0; k < plan.perLine; k++) {
                int at = cache.lines[p] * plan.perLine + k;
                if (at >= 0 && at < MEMORY_ROOM) {
                    memory[at] = cache.wordIn(p, k);
                }
            }
            traffic[WRITTEN]++;
        }

        private void markLine(int c, int line, boolean byWrite) {
            int p = caches[c].find(line);
            if (p == NONE) {
                return;
            }
            if (byWrite) {
                caches[c].writeMarks[p] = true;
            } else {
                caches[c].readMarks[p] = true;
            }
        }

        /** TRIES END by a cause: those of the cores told as bits. */
        private void endTries(int bits, int cause) {
            for (int c = 0; c < MOST_CORES; c++) {
                if ((bits >> c & 1) == 1) {
                    Core core = cores[c];
                    caches[c].unmark(true);
                    core.a = 0;
                    core.x = 0;
                    core.next = core.begun;
                    core.state = OUT;
                    core.lost = lostAfter(c, cause);
                    core.counts[cause]++;
                }
            }
            ended |= bits;
        }

        /** What LOST is once the core's TRY has ended by a cause. */
        private int lostAfter(int c, int cause) {
            if (cause == BY_CAPACITY) {
                return tries;
            }
            return cause == BY_CONFLICT ? cores[c].lost + 1 : cores[c].lost;
        }

        /** Rounds IN TURN: how many STEPS. */
        private int takeRounds(int n) {
            int steps = 0;
            for (int i = 0; i < n; i++) {
                for (int c = 0; c < MOST_CORES; c++) {
                    if (takeStep(c) != NO_STEP) {
                        steps++;
                    }
                }
            }
            return steps;
        }

        /** Draws BY A SEED, as long as there are DEEDS: how many STEPS. */
        private int takeDraws(int n, int seed) {
            int steps = 0;
            int drawn = seed;
            for (int i = 0; i < n && plan.cores > 0 && !isAllDone(); i++) {
                drawn = (25173 * drawn + 13849) % SEEDS;
                if (takeStep(drawn / 256 % plan.cores) != NO_STEP) {
                    steps++;
                }
            }
            return steps;
        }

        private int wordAt(int address) {
            int line = plan.lineOf(address);
            for (int c = 0; c < MOST_CORES; c++) {
                int p = caches[c].find(line);
                if (p != NONE && caches[c].states[p] == CHANGED && !caches[c].writeMarks[p]) {
                    return caches[c].wordIn(p, plan.offsetOf(address));
                }
            }
            return address >= 0 && address < MEMORY_ROOM ? memory[address] : 0;
        }

        private int countInAll(int what) {
            int all = 0;
            for (int c = 0; c < MOST_CORES; c++) {
                if (what >= 0 && what < COUNTS) {
                    all += cores[c].counts[what];
                }
            }
            return all;
        }
    }

    /** DEEDS done alone, without CACHES, from the words told at first. */
    private static final class Solo {
        private final Plan plan;
        private final int[] words = new int[MOST_ADDRESSES];
        private int a;
        private int x;
        private int touched;
        private int widest;

        private Solo(Plan plan) {
            this.plan = plan;
        }

        private void startOver() {
            System.arraycopy(plan.first, 0, words, 0, MOST_ADDRESSES);
            a = 0;
            x = 0;
            touched = 0;
            widest = 1;
        }

        /** The DEEDS of a core from one on, to the next end or to its last. */
        private void play(int c, int from, boolean toNextEnd) {
            for (int i = from; i < MOST_DEEDS && plan.hasDeed(c, i); i++) {
                playDeed(c, i);
                if (toNextEnd && plan.sortOf(c, i) == END) {
                    return;
                }
            }
        }

        private void playDeed(int c, int i) {
            int whole = plan.wholeOf(c, i);
            switch (plan.sortOf(c, i)) {
                case BEGIN:
                    a = 0;
                    x = 0;
                    touched = 1 << LOCK_LINE;
                    break;
                case END:
                    widen();
                    break;
                case MARK:
                    x = a;
                    break;
                case GET:
                    a = words[touch(c, i)];
                    break;
                case PUT:
                    words[touch(c, i)] = a;
                    break;
                case PLUS:
                    a = Math.floorMod(a + whole, VALUES);
                    break;
                default:
                    a = Math.floorMod(a - whole, VALUES);
                    break;
            }
        }

        private int touch(int c, int i) {
            int address = plan.addressOf(c, i, x);
            touched |= 1 << plan.lineOf(address);
            return address;
        }

        /** A TRY holds every LINE that it touched: as many WAYS as its fullest SET has of them. */
        private void widen() {
            for (int s = 0; s < plan.sets; s++) {
                int lines = 0;
                for (int line = 0; line <= LOCK_LINE; line++) {
                    if (plan.setOf(line) == s && (touched >> line & 1) == 1) {
                        lines++;
                    }
                }
                widest = Math.max(widest, lines);
            }
        }
    }

    private final int[] tape = new int[TAPE_ROOM];
    private int taped;
    private final Plan plan = new Plan();
    private final Plan draft = new Plan();
    private final TextReader reader = new TextReader(draft, tape);
    private final Run now = new Run(plan);
    private final Run kept = new Run(plan);
    private final Run trial = new Run(plan);
    private final Solo solo = new Solo(plan);
    private boolean hasMachine;
    private boolean hasKept;
    private int latestFault;
    private int latestTrouble;

    public TriedLines() {
    }

    private int refuse(int number) {
        latestTrouble = number;
        return NONE;
    }

    private int answer(int value) {
        latestTrouble = 0;
        return value;
    }

    private static int asBit(boolean so) {
        return so ? 1 : 0;
    }

    private static boolean isWithin(int number, int least, int most) {
        return number >= least && number <= most;
    }

    // ---- the machine

    public int feed(int a, int b, int c, int d, int e) {
        if (taped + FED_AT_ONCE > TAPE_ROOM) {
            return NONE;
        }
        putBytes(a);
        putBytes(b);
        putBytes(c);
        putBytes(d);
        putBytes(e);
        return taped;
    }

    private void putBytes(int number) {
        for (int shift = 24; shift >= 0; shift -= 8) {
            if (taped < TAPE_ROOM) {
                tape[taped] = number >> shift & 255;
                taped++;
            }
        }
    }

    public int machine(int n) {
        if (!isWithin(n, 0, taped)) {
            return refuse(BAD_NUMBER);
        }
        taped = 0;
        if (!reader.readText(n)) {
            latestFault = reader.faultNumber;
            return refuse(FAULTY);
        }
        latestFault = 0;
        plan.copyFrom(draft);
        now.startOver(plan.rule, plan.tries);
        hasMachine = true;
        hasKept = false;
        return answer(plan.cores);
    }

    public int fault() {
        return latestFault;
    }

    public int where() {
        return latestTrouble == FAULTY ? reader.faultPlace : NONE;
    }

    public int about(int what) {
        if (!hasMachine) {
            return refuse(NONE_SUCH);
        }
        switch (what) {
            case 0:
                return answer(plan.sets);
            case 1:
                return answer(plan.ways);
            case 2:
                return answer(plan.perLine);
            case 3:
                return answer(plan.rule);
            case 4:
                return answer(plan.tries);
            case 5:
                return answer(plan.cores);
            case 6:
                return answer(plan.addresses());
            case 7:
                return answer(now.time);
            case 8:
                return answer(now.committed);
            default:
                return refuse(NONE_SUCH);
        }
    }

    public int deed(int c, int i, int what) {
        if (!plan.hasDeed(c, i) || !isWithin(what, 0, 2)) {
            return refuse(NONE_SUCH);
        }
        if (what == 0) {
            return answer(plan.sortOf(c, i));
        }
        return answer(what == 1 ? plan.wholeOf(c, i) : asBit(plan.isIndexed(c, i)));
    }

    // ---- memory, words

    public int word(int address) {
        if (!plan.hasAddress(address)) {
            return refuse(NONE_SUCH);
        }
        return answer(now.wordAt(address));
    }

    public int memory(int address) {
        if (!plan.hasAddress(address)) {
            return refuse(NONE_SUCH);
        }
        return answer(now.memory[address]);
    }

    public int serial(int address) {
        if (!plan.hasAddress(address)) {
            return refuse(NONE_SUCH);
        }
        playCommits();
        return answer(solo.words[address]);
    }

    public int agrees() {
        if (!hasMachine) {
            return refuse(NONE_SUCH);
        }
        playCommits();
        for (int address = 0; address < MOST_ADDRESSES && plan.hasAddress(address); address++) {
            if (solo.words[address] != now.wordAt(address)) {
                return answer(0);
            }
        }
        return answer(1);
    }

    private void playCommits() {
        solo.startOver();
        for (int i = 0; i < now.committed && i < MOST_COMMITS; i++) {
            solo.play(now.commits[i * COMMIT_PARTS], now.commits[i * COMMIT_PARTS + 1], true);
        }
    }

    public int lock() {
        return hasMachine ? answer(now.holder) : refuse(NONE_SUCH);
    }

    public int alone(int first, int address) {
        if (!plan.hasCore(first) || !plan.hasAddress(address)) {
            return refuse(NONE_SUCH);
        }
        solo.startOver();
        for (int i = 0; i < plan.cores && i < MOST_CORES; i++) {
            int c = first + i;
            solo.play(c < plan.cores ? c : c - plan.cores, 0, false);
        }
        return answer(solo.words[address]);
    }

    // ---- caches

    public int place(int c, int set, int way, int what) {
        boolean isPlace = plan.hasCore(c) && isWithin(set, 0, plan.sets - 1) && isWithin(way, 0, plan.ways - 1);
        if (!isPlace || !isWithin(what, 0, 4)) {
            return refuse(NONE_SUCH);
        }
        Cache cache = now.caches[c];
        int p = set * plan.ways + way;
        if (!isWithin(p, 0, MOST_PLACES - 1)) {
            return refuse(NONE_SUCH);
        }
        switch (what) {
            case 0:
                return answer(cache.lines[p]);
            case 1:
                return answer(cache.states[p]);
            case 2:
                return answer(asBit(cache.readMarks[p]));
            case 3:
                return answer(asBit(cache.writeMarks[p]));
            default:
                return answer(cache.used[p]);
        }
    }

    public int cached(int c, int address) {
        if (!plan.hasCore(c) || !plan.hasAddress(address)) {
            return refuse(NONE_SUCH);
        }
        int p = now.caches[c].find(plan.lineOf(address));
        return answer(p == NONE ? WITHOUT : now.caches[c].wordIn(p, plan.offsetOf(address)));
    }

    public int sharers(int line) {
        if (!hasMachine || !isWithin(line, 0, LOCK_LINE)) {
            return refuse(NONE_SUCH);
        }
        int bits = 0;
        for (int c = 0; c < MOST_CORES; c++) {
            if (now.caches[c].find(line) != NONE) {
                bits |= 1 << c;
            }
        }
        return answer(bits);
    }

    public int reads(int c) {
        return plan.hasCore(c) ? answer(now.caches[c].markedLines(false)) : refuse(NONE_SUCH);
    }

    public int writes(int c) {
        return plan.hasCore(c) ? answer(now.caches[c].markedLines(true)) : refuse(NONE_SUCH);
    }

    public int traffic(int what) {
        if (!hasMachine || !isWithin(what, 0, TRAFFICS - 1)) {
            return refuse(NONE_SUCH);
        }
        return answer(now.traffic[what]);
    }

    // ---- cores

    public int core(int c, int what) {
        if (!plan.hasCore(c)) {
            return refuse(NONE_SUCH);
        }
        Core core = now.cores[c];
        switch (what) {
            case 0:
                return answer(now.hasDeedsLeft(c) ? core.next : WITHOUT);
            case 1:
                return answer(core.a);
            case 2:
                return answer(core.x);
            case 3:
                return answer(core.state);
            case 4:
                return answer(core.lost);
            case 5:
                return answer(core.age);
            case 6:
                return answer(plan.lengths[c]);
            default:
                return refuse(NONE_SUCH);
        }
    }

    public int count(int c, int what) {
        if (!plan.hasCore(c) || !isWithin(what, 0, COUNTS - 1)) {
            return refuse(NONE_SUCH);
        }
        return answer(now.cores[c].counts[what]);
    }

    public int advice(int c, int cause) {
        if (!plan.hasCore(c)) {
            return refuse(NONE_SUCH);
        }
        if (!isWithin(cause, BY_CONFLICT, BY_LOCK)) {
            return refuse(BAD_NUMBER);
        }
        if (now.cores[c].state != TRYING) {
            return refuse(NOT_SO);
        }
        return answer(asBit(now.lostAfter(c, cause) >= now.tries));
    }

    public int commit(int i, int what) {
        boolean isCommit = isWithin(i, 0, now.committed - 1) && i < MOST_COMMITS;
        if (!hasMachine || !isCommit || !isWithin(what, 0, COMMIT_PARTS - 1)) {
            return refuse(NONE_SUCH);
        }
        return answer(now.commits[i * COMMIT_PARTS + what]);
    }

    // ---- steps

    public int would(int c) {
        if (!plan.hasCore(c)) {
            return refuse(NONE_SUCH);
        }
        trial.copyFrom(now);
        return answer(trial.takeStep(c));
    }

    public int wouldEnd(int c) {
        if (!plan.hasCore(c)) {
            return refuse(NONE_SUCH);
        }
        trial.copyFrom(now);
        trial.takeStep(c);
        return answer(trial.ended);
    }

    public int step(int c) {
        return plan.hasCore(c) ? answer(now.takeStep(c)) : refuse(NONE_SUCH);
    }

    public int rounds(int n) {
        if (!hasMachine) {
            return refuse(NONE_SUCH);
        }
        if (!isWithin(n, 1, MOST_ROUNDS)) {
            return refuse(BAD_NUMBER);
        }
        return answer(now.takeRounds(n));
    }

    public int draws(int n, int seed) {
        if (!hasMachine) {
            return refuse(NONE_SUCH);
        }
        if (!isWithin(n, 1, MOST_DRAWS) || !isSeed(seed)) {
            return refuse(BAD_NUMBER);
        }
        return answer(now.takeDraws(n, seed));
    }

    private static boolean isSeed(int seed) {
        return isWithin(seed, 0, SEEDS - 1);
    }

    public int interrupt(int c) {
        if (!plan.hasCore(c)) {
            return refuse(NONE_SUCH);
        }
        if (now.cores[c].state != TRYING) {
            return refuse(NOT_SO);
        }
        now.endTries(1 << c, BY_INTERRUPT);
        return answer(now.cores[c].next);
    }

    // ---- what if

    private static boolean isTrial(int rule, int tries, int seed) {
        return isWithin(rule, RULE_WINS, RULE_YIELDS) && isWithin(tries, 1, MOST_TRIES) && isSeed(seed);
    }

    public int tried(int rule, int tries, int seed, int what) {
        if (!hasMachine || !isWithin(what, 0, 5)) {
            return refuse(NONE_SUCH);
        }
        if (!isTrial(rule, tries, seed)) {
            return refuse(BAD_NUMBER);
        }
        trial.startOver(rule, tries);
        trial.takeDraws(TRIED_DRAWS, seed);
        if (!trial.isAllDone()) {
            return answer(WITHOUT);
        }
        switch (what) {
            case 0:
                return answer(trial.time);
            case 1:
                return answer(trial.countInAll(BY_CONFLICT));
            case 2:
                return answer(trial.countInAll(BY_CAPACITY));
            case 3:
                return answer(trial.countInAll(BY_LOCK));
            case 4:
                return answer(trial.countInAll(LOCK_COMMITS));
            default:
                return answer(trial.countInAll(WAITED));
        }
    }

    public int triedWord(int rule, int tries, int seed, int address) {
        if (!plan.hasAddress(address)) {
            return refuse(NONE_SUCH);
        }
        if (!isTrial(rule, tries, seed)) {
            return refuse(BAD_NUMBER);
        }
        trial.startOver(rule, tries);
        trial.takeDraws(TRIED_DRAWS, seed);
        return answer(trial.wordAt(address));
    }

    public int best(int seed) {
        if (!hasMachine) {
            return refuse(NONE_SUCH);
        }
        if (!isSeed(seed)) {
            return refuse(BAD_NUMBER);
        }
        int found = WITHOUT;
        int fewest = 0;
        for (int rule = RULE_WINS; rule <= RULE_YIELDS; rule++) {
            trial.startOver(rule, plan.tries);
            trial.takeDraws(TRIED_DRAWS, seed);
            if (trial.isAllDone() && (found == WITHOUT || trial.time < fewest)) {
                found = rule;
                fewest = trial.time;
            }
        }
        return answer(found);
    }

    public int waysFor(int c) {
        if (!plan.hasCore(c)) {
            return refuse(NONE_SUCH);
        }
        solo.startOver();
        solo.play(c, 0, false);
        return answer(solo.widest);
    }

    // ---- what is kept

    public boolean keep() {
        if (!hasMachine) {
            refuse(NONE_SUCH);
            return false;
        }
        kept.copyFrom(now);
        hasKept = true;
        answer(0);
        return true;
    }

    public boolean back() {
        if (!hasKept) {
            refuse(NONE_SUCH);
            return false;
        }
        now.copyFrom(kept);
        answer(0);
        return true;
    }

    // ---- what is told

    public int done(int i) throws NoSuchElementException {
        int found = 0;
        for (int c = 0; c < MOST_CORES; c++) {
            if (plan.hasCore(c) && !now.hasDeedsLeft(c)) {
                if (found == i) {
                    return c;
                }
                found++;
            }
        }
        throw new NoSuchElementException();
    }

    public int size(int what) {
        switch (what) {
            case 0:
                return taped;
            case 1:
                return plan.told;
            case 2:
                return plan.deedsInAll();
            case 3:
                return asBit(hasKept);
            default:
                return NONE;
        }
    }

    public int trouble() {
        return latestTrouble;
    }
}
