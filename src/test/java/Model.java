import java.util.ArrayList;
import java.util.HashSet;
import java.util.List;
import java.util.Set;
import java.util.regex.Matcher;
import java.util.regex.Pattern;

/**
 * The document once more, written for plainness alone and on other lines than the class, to compare
 * the two: a table-driven reader; caches as lists of lines; what if, alone and ways by real runs.
 */
final class Model {
    static final String[] SORTS = {"begin", "end", "mark", "get", "put", "plus", "less"};

    // ---- the text

    static final class Deed {
        int sort;
        int whole = -2;
        boolean x;
    }

    static final class Text {
        int sets, ways, words, rule, tries;
        final int[] first = new int[64];
        final Set<Integer> given = new HashSet<>();
        final List<List<Deed>> cores = new ArrayList<>();
        int fault, where;

        int addresses() {
            return 16 * words;
        }
    }

    static final class Fault extends RuntimeException {
        final int number, place;

        Fault(int number, int place) {
            super(null, null, false, false);
            this.number = number;
            this.place = place;
        }
    }

    private static final Pattern TOKEN = Pattern.compile("[a-z]+|[0-9]+|;| +|[^a-z0-9; ]", Pattern.DOTALL);

    /** Tokens with their places; a bad one is told as "?", the end as "". */
    private static List<String[]> tokens(String text) {
        List<String[]> all = new ArrayList<>();
        Matcher m = TOKEN.matcher(text);
        while (m.find()) {
            String token = m.group();
            if (token.charAt(0) == ' ') {
                continue;
            }
            boolean good = token.matches("[a-z]{1,7}|[0-9]{1,3}|;");
            all.add(new String[] {good ? token : "?", "" + m.start()});
        }
        all.add(new String[] {"", "" + text.length()});
        return all;
    }

    private static String form(String name) {
        switch (name) {
            case "machine":
                return "sets S ways W words S rule R tries T";
            case "word":
                return "A V";
            case "get":
            case "put":
                return "a X";
            case "plus":
            case "less":
                return "V";
            case "core":
            case "begin":
            case "end":
            case "mark":
                return "";
            default:
                return null;
        }
    }

    static Text read(String text) {
        Text t = new Text();
        try {
            readLines(t, tokens(text));
        } catch (Fault f) {
            t.fault = f.number;
            t.where = f.place;
        }
        return t;
    }

    private static void readLines(Text t, List<String[]> tokens) {
        int i = 0;
        boolean open = false;
        int lines = 0;
        while (true) {
            String name = tokens.get(i)[0];
            int at = Integer.parseInt(tokens.get(i)[1]);
            String form = form(name);
            List<Deed> latest = t.cores.isEmpty() ? null : t.cores.get(t.cores.size() - 1);
            boolean isDeed = form != null && !name.equals("machine") && !name.equals("word") && !name.equals("core");
            if (form == null) {
                throw new Fault(1, at);
            }
            if (name.equals("machine") && lines > 0 && t.tries > 0) {
                throw new Fault(3, at);
            }
            if (name.equals("word") && t.given.size() == 12 || name.equals("core") && t.cores.size() == 4
                    || isDeed && latest != null && latest.size() == 24) {
                throw new Fault(4, at);
            }
            if (!name.equals("machine") && t.tries == 0 || isDeed && latest == null) {
                throw new Fault(5, at);
            }
            if ((name.equals("begin") || name.equals("core")) && open
                    || (name.equals("end") || name.equals("get") || name.equals("put")) && !open) {
                throw new Fault(6, at);
            }
            open = name.equals("begin") || open && !name.equals("end");
            i = readRest(t, tokens, i + 1, name, form);
            lines++;
            String behind = tokens.get(i)[0];
            int place = Integer.parseInt(tokens.get(i)[1]);
            if (behind.equals("")) {
                if (t.cores.isEmpty()) {
                    throw new Fault(5, place);
                }
                if (open) {
                    throw new Fault(6, place);
                }
                return;
            }
            if (!behind.equals(";")) {
                throw new Fault(1, place);
            }
            i++;
        }
    }

    private static int readRest(Text t, List<String[]> tokens, int from, String name, String form) {
        int i = from;
        List<Integer> numbers = new ArrayList<>();
        boolean x = false;
        for (String want : form.isEmpty() ? new String[0] : form.split(" ")) {
            String token = tokens.get(i)[0];
            int at = Integer.parseInt(tokens.get(i)[1]);
            if (want.equals("X")) {
                x = token.equals("x");
                i += x ? 1 : 0;
                continue;
            }
            if (want.equals("R")) {
                numbers.add(List.of("wins", "age", "yields").indexOf(token));
                if (numbers.get(numbers.size() - 1) < 0) {
                    throw new Fault(1, at);
                }
            } else if (want.length() > 1) {
                if (!token.equals(want)) {
                    throw new Fault(1, at);
                }
            } else {
                numbers.add(number(t, token, at, want));
            }
            i++;
        }
        store(t, name, numbers, x);
        return i;
    }

    private static int number(Text t, String token, int at, String want) {
        if (!token.matches("[0-9]+")) {
            throw new Fault(1, at);
        }
        int v = Integer.parseInt(token);
        boolean good = want.equals("S") ? v == 1 || v == 2 || v == 4
                : want.equals("W") ? v >= 1 && v <= 4
                : want.equals("T") ? v >= 1 && v <= 9
                : want.equals("V") || v < t.addresses();
        if (!good) {
            throw new Fault(2, at);
        }
        if (want.equals("A") && t.given.contains(v)) {
            throw new Fault(3, at);
        }
        return v;
    }

    private static void store(Text t, String name, List<Integer> numbers, boolean x) {
        if (name.equals("machine")) {
            t.sets = numbers.get(0);
            t.ways = numbers.get(1);
            t.words = numbers.get(2);
            t.rule = numbers.get(3);
            t.tries = numbers.get(4);
        } else if (name.equals("word")) {
            t.given.add(numbers.get(0));
            t.first[numbers.get(0)] = numbers.get(1);
        } else if (name.equals("core")) {
            t.cores.add(new ArrayList<>());
        } else {
            Deed d = new Deed();
            d.sort = List.of(SORTS).indexOf(name);
            d.whole = numbers.isEmpty() ? -2 : numbers.get(0);
            d.x = x;
            t.cores.get(t.cores.size() - 1).add(d);
        }
    }

    // ---- the run

    static final class Line {
        int number, how, used;
        boolean read, write;
        int[] words;

        Line copy() {
            Line l = new Line();
            l.number = number;
            l.how = how;
            l.used = used;
            l.read = read;
            l.write = write;
            l.words = words.clone();
            return l;
        }
    }

    static final class Core {
        Line[][] cache;
        int next, begin, a, x, state, lost, age = -2;
        int[] counts = new int[7];

        Core copy() {
            Core c = new Core();
            c.cache = new Line[cache.length][];
            for (int s = 0; s < cache.length; s++) {
                c.cache[s] = cache[s].clone();
                for (int w = 0; w < cache[s].length; w++) {
                    c.cache[s][w] = cache[s][w] == null ? null : cache[s][w].copy();
                }
            }
            c.next = next;
            c.begin = begin;
            c.a = a;
            c.x = x;
            c.state = state;
            c.lost = lost;
            c.age = age;
            c.counts = counts.clone();
            return c;
        }

        Line has(int line) {
            for (Line l : cache[line % cache.length]) {
                if (l != null && l.number == line) {
                    return l;
                }
            }
            return null;
        }
    }

    static final class Ended extends RuntimeException {
        final int outcome;

        Ended(int outcome) {
            super(null, null, false, false);
            this.outcome = outcome;
        }
    }

    static final class State {
        final Text text;
        final int rule, tries;
        int[] memory;
        List<Core> cores = new ArrayList<>();
        List<int[]> commits = new ArrayList<>();
        int time;
        int[] traffic = new int[3];
        int ended;

        State(Text text, int rule, int tries, int ways) {
            this.text = text;
            this.rule = rule;
            this.tries = tries;
            memory = new int[17 * text.words];
            for (int i = 0; i < text.addresses(); i++) {
                memory[i] = text.first[i];
            }
            for (int c = 0; c < text.cores.size(); c++) {
                Core core = new Core();
                core.cache = new Line[text.sets][ways];
                cores.add(core);
            }
        }

        State copy() {
            State s = new State(text, rule, tries, text.ways);
            s.memory = memory.clone();
            s.cores.clear();
            for (Core c : cores) {
                s.cores.add(c.copy());
            }
            s.commits = new ArrayList<>(commits);
            s.time = time;
            s.traffic = traffic.clone();
            s.ended = ended;
            return s;
        }

        boolean left(int c) {
            return cores.get(c).next < text.cores.get(c).size();
        }

        boolean anyLeft() {
            for (int c = 0; c < cores.size(); c++) {
                if (left(c)) {
                    return true;
                }
            }
            return false;
        }

        int holder() {
            for (int c = 0; c < cores.size(); c++) {
                if (cores.get(c).state == 2) {
                    return c;
                }
            }
            return -2;
        }

        int word(int address) {
            for (Core c : cores) {
                Line l = c.has(address / text.words);
                if (l != null && l.how == 3 && !l.write) {
                    return l.words[address % text.words];
                }
            }
            return memory[address];
        }

        void write(Line l) {
            for (int k = 0; k < text.words; k++) {
                memory[l.number * text.words + k] = l.words[k];
            }
            traffic[1]++;
        }

        void remove(Core c, Line line) {
            for (Line[] set : c.cache) {
                for (int w = 0; w < set.length; w++) {
                    if (set[w] == line) {
                        set[w] = null;
                    }
                }
            }
        }

        void endTry(int c, int cause) {
            Core core = cores.get(c);
            for (Line[] set : core.cache) {
                for (int w = 0; w < set.length; w++) {
                    if (set[w] != null && set[w].write) {
                        set[w] = null;
                    } else if (set[w] != null) {
                        set[w].read = false;
                    }
                }
            }
            core.a = 0;
            core.x = 0;
            core.next = core.begin;
            core.state = 0;
            core.counts[cause]++;
            if (cause == 0) {
                core.lost++;
            } else if (cause == 1) {
                core.lost = tries;
            }
            ended |= 1 << c;
        }

        Line reach(int c, int number, boolean own, boolean forLock) {
            List<Integer> asked = new ArrayList<>();
            boolean younger = true;
            for (int o = 0; o < cores.size(); o++) {
                Line l = o == c ? null : cores.get(o).has(number);
                if (l != null && (l.write || own && l.read)) {
                    asked.add(o);
                    younger &= cores.get(o).age > cores.get(c).age;
                }
            }
            if (!asked.isEmpty() && !forLock && rule == 2) {
                endTry(c, 0);
                throw new Ended(3);
            }
            if (!asked.isEmpty() && !forLock && rule == 1 && !younger) {
                cores.get(c).counts[6]++;
                throw new Ended(2);
            }
            for (int o : asked) {
                endTry(o, forLock ? 3 : 0);
            }
            Core core = cores.get(c);
            Line mine = core.has(number);
            Line[] set = core.cache[number % core.cache.length];
            int way = -1;
            if (mine == null) {
                for (int w = 0; w < set.length && way < 0; w++) {
                    way = set[w] == null ? w : -1;
                }
                if (way < 0) {
                    for (int w = 0; w < set.length; w++) {
                        boolean free = !set[w].read && !set[w].write;
                        if (free && (way < 0 || set[w].used < set[way].used)) {
                            way = w;
                        }
                    }
                }
                if (way < 0) {
                    endTry(c, 1);
                    throw new Ended(3);
                }
                if (set[way] != null && set[way].how == 3) {
                    write(set[way]);
                }
                set[way] = null;
            }
            boolean another = false;
            for (int o = 0; o < cores.size(); o++) {
                Line l = o == c ? null : cores.get(o).has(number);
                if (l == null) {
                    continue;
                }
                if (l.how == 3) {
                    write(l);
                }
                if (own) {
                    remove(cores.get(o), l);
                    traffic[2]++;
                } else {
                    l.how = 1;
                    another = true;
                }
            }
            if (mine == null) {
                mine = new Line();
                mine.number = number;
                mine.how = another ? 1 : 2;
                mine.words = new int[text.words];
                for (int k = 0; k < text.words; k++) {
                    mine.words[k] = memory[number * text.words + k];
                }
                set[way] = mine;
                traffic[0]++;
            }
            if (own) {
                mine.how = 3;
            }
            mine.used = time;
            return mine;
        }

        int step(int c) {
            ended = 0;
            if (!left(c)) {
                return 0;
            }
            time++;
            try {
                deed(c, cores.get(c), text.cores.get(c).get(cores.get(c).next));
                cores.get(c).next++;
                return 1;
            } catch (Ended e) {
                return e.outcome;
            }
        }

        private void deed(int c, Core core, Deed d) {
            if (d.sort == 0) {
                begin(c, core);
            } else if (d.sort == 1) {
                end(c, core);
            } else if (d.sort == 2) {
                core.x = core.a;
            } else if (d.sort == 3 || d.sort == 4) {
                int address = d.x ? (d.whole + core.x) % text.addresses() : d.whole;
                int number = address / text.words;
                Line had = core.has(number);
                boolean save = d.sort == 4 && core.state == 1 && had != null && had.how == 3 && !had.write;
                Line l = reach(c, number, d.sort == 4, false);
                if (d.sort == 3) {
                    l.read |= core.state == 1;
                    core.a = l.words[address % text.words];
                } else {
                    if (save) {
                        write(l);
                    }
                    l.write |= core.state == 1;
                    l.words[address % text.words] = core.a;
                }
            } else {
                core.a = (core.a + (d.sort == 5 ? d.whole : 1000 - d.whole)) % 1000;
            }
        }

        private void begin(int c, Core core) {
            int holder = holder();
            if (holder >= 0 && holder != c) {
                core.counts[6]++;
                throw new Ended(2);
            }
            if (core.lost < tries) {
                reach(c, 16, false, false).read = true;
                core.state = 1;
            } else {
                reach(c, 16, true, true);
                core.state = 2;
            }
            core.a = 0;
            core.x = 0;
            core.begin = core.next;
            core.age = core.age == -2 ? time : core.age;
        }

        private void end(int c, Core core) {
            int lock = core.state == 2 ? 1 : 0;
            for (Line[] set : core.cache) {
                for (Line l : set) {
                    if (l != null) {
                        l.read = false;
                        l.write = false;
                    }
                }
            }
            core.counts[4]++;
            core.counts[5] += lock;
            commits.add(new int[] {c, core.begin, time, lock});
            core.lost = 0;
            core.age = -2;
            core.state = 0;
        }

        int draws(int n, int seed) {
            int steps = 0;
            long s = seed;
            for (int i = 0; i < n; i++) {
                s = (25173 * s + 13849) % 65536;
                steps += step((int) (s / 256) % cores.size()) > 0 ? 1 : 0;
            }
            return steps;
        }
    }

    // ---- the object

    final StringBuilder tape = new StringBuilder();
    Text text;
    State now;
    State kept;
    int fault;
    int trouble;
    int where;

    static final class Refused extends RuntimeException {
        final int number;

        Refused(int number) {
            super(null, null, false, false);
            this.number = number;
        }
    }

    private static void need(boolean so, int number) {
        if (!so) {
            throw new Refused(number);
        }
    }

    private boolean isCore(int c) {
        return text != null && c >= 0 && c < text.cores.size();
    }

    private boolean isAddress(int a) {
        return text != null && a >= 0 && a < text.addresses();
    }

    private static boolean in(int v, int least, int most) {
        return v >= least && v <= most;
    }

    /** The answer of a call by its name; Check.THROWN where it throws. */
    long call(String name, int... p) {
        switch (name) {
            case "feed":
                return feed(p);
            case "fault":
                return fault;
            case "where":
                return trouble == 4 ? where : -1;
            case "trouble":
                return trouble;
            case "done":
                return done(p[0]);
            case "size":
                return size(p[0]);
            default:
        }
        try {
            long answer = refusable(name, p);
            trouble = 0;
            return answer;
        } catch (Refused r) {
            trouble = r.number;
            return name.equals("keep") || name.equals("back") ? 0 : -1;
        }
    }

    private long feed(int[] p) {
        if (tape.length() + 20 > 900) {
            return -1;
        }
        for (int v : p) {
            tape.append((char) (v >>> 24)).append((char) (v >> 16 & 255)).append((char) (v >> 8 & 255)).append((char) (v & 255));
        }
        return tape.length();
    }

    private long done(int i) {
        List<Integer> all = new ArrayList<>();
        for (int c = 0; text != null && c < text.cores.size(); c++) {
            if (!now.left(c)) {
                all.add(c);
            }
        }
        return i >= 0 && i < all.size() ? all.get(i) : Check.THROWN;
    }

    private long size(int what) {
        switch (what) {
            case 0:
                return tape.length();
            case 1:
                return text == null ? 0 : text.given.size();
            case 2:
                return text == null ? 0 : text.cores.stream().mapToInt(List::size).sum();
            case 3:
                return kept == null ? 0 : 1;
            default:
                return -1;
        }
    }

    private long refusable(String name, int[] p) {
        switch (name) {
            case "machine":
                return machine(p[0]);
            case "about":
                need(text != null && in(p[0], 0, 8), 1);
                return new int[] {text.sets, text.ways, text.words, text.rule, text.tries, text.cores.size(),
                    text.addresses(), now.time, now.commits.size()}[p[0]];
            case "deed": {
                need(isCore(p[0]) && in(p[1], 0, text.cores.get(p[0]).size() - 1) && in(p[2], 0, 2), 1);
                Deed d = text.cores.get(p[0]).get(p[1]);
                return p[2] == 0 ? d.sort : p[2] == 1 ? d.whole : d.x ? 1 : 0;
            }
            case "word":
                need(isAddress(p[0]), 1);
                return now.word(p[0]);
            case "memory":
                need(isAddress(p[0]), 1);
                return now.memory[p[0]];
            case "serial":
                need(isAddress(p[0]), 1);
                return serial()[p[0]];
            case "agrees": {
                need(text != null, 1);
                boolean same = true;
                for (int a = 0; a < text.addresses(); a++) {
                    same &= serial()[a] == now.word(a);
                }
                return same ? 1 : 0;
            }
            case "lock":
                need(text != null, 1);
                return now.holder();
            case "alone":
                need(isCore(p[0]) && isAddress(p[1]), 1);
                return alone(p[0], p[1]);
            default:
                return caches(name, p);
        }
    }

    private long machine(int n) {
        need(in(n, 0, tape.length()), 2);
        Text t = read(tape.substring(0, n));
        tape.setLength(0);
        fault = t.fault;
        where = t.where;
        need(t.fault == 0, 4);
        text = t;
        now = new State(t, t.rule, t.tries, t.ways);
        kept = null;
        return t.cores.size();
    }

    private int[] serial() {
        int[] words = text.first.clone();
        for (int[] commit : now.commits) {
            int a = 0;
            int x = 0;
            List<Deed> deeds = text.cores.get(commit[0]);
            for (int i = commit[1] + 1; deeds.get(i).sort != 1; i++) {
                Deed d = deeds.get(i);
                int address = d.x ? (d.whole + x) % text.addresses() : d.whole;
                if (d.sort == 2) {
                    x = a;
                } else if (d.sort == 3) {
                    a = words[address];
                } else if (d.sort == 4) {
                    words[address] = a;
                } else {
                    a = (a + (d.sort == 5 ? d.whole : 1000 - d.whole)) % 1000;
                }
            }
        }
        return words;
    }

    private long alone(int first, int address) {
        State s = new State(text, text.rule, text.tries, 17);
        for (int k = 0; k < text.cores.size(); k++) {
            int c = (first + k) % text.cores.size();
            while (s.left(c)) {
                s.step(c);
            }
        }
        return s.word(address);
    }

    private long caches(String name, int[] p) {
        switch (name) {
            case "place": {
                need(isCore(p[0]) && in(p[1], 0, text.sets - 1) && in(p[2], 0, text.ways - 1) && in(p[3], 0, 4), 1);
                Line l = now.cores.get(p[0]).cache[p[1]][p[2]];
                if (l == null) {
                    return p[3] == 0 || p[3] == 4 ? -2 : 0;
                }
                return new int[] {l.number, l.how, l.read ? 1 : 0, l.write ? 1 : 0, l.used}[p[3]];
            }
            case "cached": {
                need(isCore(p[0]) && isAddress(p[1]), 1);
                Line l = now.cores.get(p[0]).has(p[1] / text.words);
                return l == null ? -2 : l.words[p[1] % text.words];
            }
            case "sharers": {
                need(text != null && in(p[0], 0, 16), 1);
                int bits = 0;
                for (int c = 0; c < now.cores.size(); c++) {
                    bits |= now.cores.get(c).has(p[0]) == null ? 0 : 1 << c;
                }
                return bits;
            }
            case "reads":
            case "writes": {
                need(isCore(p[0]), 1);
                int bits = 0;
                for (int line = 0; line <= 16; line++) {
                    Line l = now.cores.get(p[0]).has(line);
                    bits |= l != null && (name.equals("reads") ? l.read : l.write) ? 1 << line : 0;
                }
                return bits;
            }
            case "traffic":
                need(text != null && in(p[0], 0, 2), 1);
                return now.traffic[p[0]];
            case "core": {
                need(isCore(p[0]) && in(p[1], 0, 6), 1);
                Core c = now.cores.get(p[0]);
                int next = now.left(p[0]) ? c.next : -2;
                return new int[] {next, c.a, c.x, c.state, c.lost, c.age, text.cores.get(p[0]).size()}[p[1]];
            }
            case "count":
                need(isCore(p[0]) && in(p[1], 0, 6), 1);
                return now.cores.get(p[0]).counts[p[1]];
            case "advice": {
                need(isCore(p[0]), 1);
                need(in(p[1], 0, 3), 2);
                need(now.cores.get(p[0]).state == 1, 5);
                State s = now.copy();
                s.endTry(p[0], p[1]);
                s.step(p[0]);
                return s.cores.get(p[0]).state == 2 ? 1 : 0;
            }
            case "commit":
                need(text != null && in(p[0], 0, now.commits.size() - 1) && in(p[1], 0, 3), 1);
                return now.commits.get(p[0])[p[1]];
            default:
                return steps(name, p);
        }
    }

    private long steps(String name, int[] p) {
        switch (name) {
            case "would":
                need(isCore(p[0]), 1);
                return now.copy().step(p[0]);
            case "wouldEnd": {
                need(isCore(p[0]), 1);
                State s = now.copy();
                s.step(p[0]);
                return s.ended;
            }
            case "step":
                need(isCore(p[0]), 1);
                return now.step(p[0]);
            case "rounds": {
                need(text != null, 1);
                need(in(p[0], 1, 200), 2);
                int steps = 0;
                for (int i = 0; i < p[0]; i++) {
                    for (int c = 0; c < text.cores.size(); c++) {
                        steps += now.step(c) > 0 ? 1 : 0;
                    }
                }
                return steps;
            }
            case "draws":
                need(text != null, 1);
                need(in(p[0], 1, 1000) && in(p[1], 0, 65535), 2);
                return now.draws(p[0], p[1]);
            case "interrupt":
                need(isCore(p[0]), 1);
                need(now.cores.get(p[0]).state == 1, 5);
                now.endTry(p[0], 2);
                return now.cores.get(p[0]).next;
            case "keep":
                need(text != null, 1);
                kept = now.copy();
                return 1;
            case "back":
                need(kept != null, 1);
                now = kept.copy();
                return 1;
            default:
                return whatIf(name, p);
        }
    }

    private State tryOut(int rule, int tries, int seed) {
        State s = new State(text, rule, tries, text.ways);
        s.draws(2000, seed);
        return s;
    }

    private long whatIf(String name, int[] p) {
        switch (name) {
            case "tried": {
                need(text != null && in(p[3], 0, 5), 1);
                need(in(p[0], 0, 2) && in(p[1], 1, 9) && in(p[2], 0, 65535), 2);
                State s = tryOut(p[0], p[1], p[2]);
                if (s.anyLeft()) {
                    return -2;
                }
                int sum = 0;
                for (Core c : s.cores) {
                    sum += c.counts[new int[] {0, 0, 1, 3, 5, 6}[p[3]]];
                }
                return p[3] == 0 ? s.time : sum;
            }
            case "triedWord":
                need(isAddress(p[3]), 1);
                need(in(p[0], 0, 2) && in(p[1], 1, 9) && in(p[2], 0, 65535), 2);
                return tryOut(p[0], p[1], p[2]).word(p[3]);
            case "best": {
                need(text != null, 1);
                need(in(p[0], 0, 65535), 2);
                int best = -2;
                int fewest = Integer.MAX_VALUE;
                for (int rule = 2; rule >= 0; rule--) {
                    State s = tryOut(rule, text.tries, p[0]);
                    if (!s.anyLeft() && s.time <= fewest) {
                        fewest = s.time;
                        best = rule;
                    }
                }
                return best;
            }
            case "waysFor": {
                need(isCore(p[0]), 1);
                for (int ways = 1; ways <= 17; ways++) {
                    State s = new State(text, text.rule, text.tries, ways);
                    while (s.left(p[0])) {
                        s.step(p[0]);
                    }
                    if (s.cores.get(p[0]).counts[1] == 0) {
                        return ways;
                    }
                }
                return -2;
            }
            default:
                throw new IllegalStateException(name);
        }
    }
}
