import java.util.LinkedHashMap;
import java.util.Map;
import java.util.function.ToLongFunction;

/** Terms IV, sentence by sentence: TROUBLE behind each call, and what the interface says ahead of calls. */
final class TroubleSentences {
    private static final long NONE = -1;
    private static final int[] NUMBERS = {0, 1, 2, 4, 5};

    private TroubleSentences() {
    }

    /** Calls by their names, with numbers. */
    private static final class Calls extends LinkedHashMap<String, ToLongFunction<TriedLines>> {
        Calls with(String name, ToLongFunction<TriedLines> call) {
            put(name, call);
            return this;
        }
    }

    static void all() {
        ofTheLatest();
        itWasNot();
        noneSuch();
        aNumber();
        aFault();
        notSo();
        inTheirOrder();
        constants();
        aheadOfMachine();
        aheadOfWords();
        aheadOfCaches();
        aheadOfCores();
        aheadOfSteps();
        aheadOfWhatIf();
        aheadOfKept();
        aheadOfTold();
    }

    /** Core 0 has committed once and is in a TRY, core 1 is OUT and done; something is kept. */
    private static TriedLines told() {
        TriedLines t = Check.told(Look.head(2, 2, 1, "wins", 2)
            + ";core;begin;end;begin;get 0;get 1;end;core;mark;mark");
        Check.steps(t, "00011", "11111");
        t.keep();
        return t;
    }

    /** Has a call behind which TROUBLE is this number. */
    private static void trouble(TriedLines t, int number) {
        if (number == 0) {
            t.lock();
        } else if (number == 1) {
            t.word(-1);
        } else if (number == 2) {
            t.rounds(0);
        } else if (number == 4) {
            t.machine(t.feed(0, 0, 0, 0, 0));
        } else {
            t.interrupt(1);
        }
        Check.due("trouble() ahead", t.trouble(), number);
    }

    /** Behind each call, whatever was ahead of it, TROUBLE is a number, and the answer NONE if refused. */
    private static void behind(Calls calls, int number) {
        for (Map.Entry<String, ToLongFunction<TriedLines>> each : calls.entrySet()) {
            for (int ahead : NUMBERS) {
                TriedLines t = told();
                trouble(t, ahead);
                long answer = each.getValue().applyAsLong(t);
                boolean isTruth = each.getKey().startsWith("keep") || each.getKey().startsWith("back");
                if (number != 0) {
                    Check.due(each.getKey() + " behind " + ahead, answer, isTruth ? 0 : NONE);
                } else {
                    Check.due(each.getKey() + " behind " + ahead, answer >= (isTruth ? 1 : -2) && answer != NONE, true);
                }
                Check.due("trouble() behind " + each.getKey(), t.trouble(), number);
                Check.due("where() behind " + each.getKey(), t.where() != NONE, number == 4);
            }
        }
    }

    private static long asLong(boolean so) {
        return so ? 1 : 0;
    }

    private static void ofTheLatest() {
        Document.says("IV", "TROUBLE of the latest call that may be refused (those of which a number is told here):");
        // of the others none changes it, not even one that answers NONE or throws
        Calls calls = new Calls().with("feed()", t -> t.feed(0, 0, 0, 0, 0)).with("fault()", t -> t.fault())
            .with("where()", t -> t.where()).with("done(0)", t -> Check.done(t, 0)).with("done(-1)", t -> Check.done(t, -1))
            .with("size(0)", t -> t.size(0)).with("size(4)", t -> t.size(4)).with("trouble()", t -> t.trouble())
            .with("feed() beyond", t -> {
                for (int i = 0; i < 45; i++) {
                    t.feed(0, 0, 0, 0, 0);
                }
                return t.feed(0, 0, 0, 0, 0);
            });
        for (Map.Entry<String, ToLongFunction<TriedLines>> each : calls.entrySet()) {
            for (int ahead : NUMBERS) {
                TriedLines t = told();
                trouble(t, ahead);
                int where = t.where();
                each.getValue().applyAsLong(t);
                Check.due("trouble() behind " + each.getKey(), t.trouble(), ahead);
                Check.due("where() behind " + each.getKey(), t.where(), where);
            }
        }
        Check.due("trouble() ahead of all calls", new TriedLines().trouble(), 0);
    }

    private static void itWasNot() {
        Document.says("IV", "0 it wasn't;");
        behind(new Calls().with("machine()", t -> {
            String text = Look.head(1, 1, 1, "wins", 1) + ";core";
            return Check.tell(t, text);
        }).with("about(8)", t -> t.about(8)).with("deed(0, 0, 1)", t -> t.deed(0, 0, 1)).with("word(15)", t -> t.word(15))
            .with("memory(0)", t -> t.memory(0)).with("serial(0)", t -> t.serial(0)).with("agrees()", t -> t.agrees())
            .with("lock()", t -> t.lock()).with("alone(1, 0)", t -> t.alone(1, 0))
            .with("place(1, 0, 0, 0)", t -> t.place(1, 0, 0, 0)).with("cached(1, 0)", t -> t.cached(1, 0))
            .with("sharers(16)", t -> t.sharers(16)).with("reads(1)", t -> t.reads(1)).with("writes(0)", t -> t.writes(0))
            .with("traffic(2)", t -> t.traffic(2)), 0);
        behind(new Calls().with("core(1, 5)", t -> t.core(1, 5)).with("count(1, 6)", t -> t.count(1, 6))
            .with("advice(0, 3)", t -> t.advice(0, 3)).with("commit(0, 3)", t -> t.commit(0, 3))
            .with("would(1)", t -> t.would(1)).with("wouldEnd(1)", t -> t.wouldEnd(1)).with("step(0)", t -> t.step(0))
            .with("rounds(200)", t -> t.rounds(200)).with("draws(1000, 65535)", t -> t.draws(1000, 65535))
            .with("interrupt(0)", t -> t.interrupt(0)).with("tried(2, 9, 65535, 5)", t -> t.tried(2, 9, 65535, 5))
            .with("triedWord(0, 1, 0, 15)", t -> t.triedWord(0, 1, 0, 15)).with("best(65535)", t -> t.best(65535))
            .with("waysFor(1)", t -> t.waysFor(1)).with("keep()", t -> asLong(t.keep()))
            .with("back()", t -> asLong(t.back())), 0);
    }

    private static void noneSuch() {
        Document.says("IV", "1 there is none such;");
        behind(new Calls().with("about(9)", t -> t.about(9)).with("deed(0, 9, 0)", t -> t.deed(0, 9, 0))
            .with("word(16)", t -> t.word(16)).with("memory(16)", t -> t.memory(16)).with("serial(16)", t -> t.serial(16))
            .with("alone(2, 0)", t -> t.alone(2, 0)).with("place(0, 2, 0, 0)", t -> t.place(0, 2, 0, 0))
            .with("cached(0, 16)", t -> t.cached(0, 16)).with("sharers(17)", t -> t.sharers(17))
            .with("reads(2)", t -> t.reads(2)).with("writes(2)", t -> t.writes(2)).with("traffic(3)", t -> t.traffic(3))
            .with("core(0, 7)", t -> t.core(0, 7)).with("count(0, 7)", t -> t.count(0, 7)), 1);
        behind(new Calls().with("advice(2, 0)", t -> t.advice(2, 0)).with("commit(1, 0)", t -> t.commit(1, 0))
            .with("would(2)", t -> t.would(2)).with("wouldEnd(2)", t -> t.wouldEnd(2)).with("step(2)", t -> t.step(2))
            .with("interrupt(2)", t -> t.interrupt(2)).with("tried(0, 1, 0, 6)", t -> t.tried(0, 1, 0, 6))
            .with("triedWord(0, 1, 0, 16)", t -> t.triedWord(0, 1, 0, 16)).with("waysFor(2)", t -> t.waysFor(2)), 1);
    }

    private static void aNumber() {
        Document.says("IV", "2 a number;");
        behind(new Calls().with("machine(-1)", t -> t.machine(-1)).with("machine(1)", t -> t.machine(1))
            .with("advice(0, 4)", t -> t.advice(0, 4)).with("rounds(201)", t -> t.rounds(201))
            .with("draws(1001, 0)", t -> t.draws(1001, 0)).with("draws(1, 65536)", t -> t.draws(1, 65536))
            .with("tried(3, 1, 0, 0)", t -> t.tried(3, 1, 0, 0)).with("triedWord(0, 10, 0, 0)", t -> t.triedWord(0, 10, 0, 0))
            .with("best(-1)", t -> t.best(-1)), 2);
    }

    private static void aFault() {
        Document.says("IV", "4 a FAULT;");
        behind(new Calls().with("machine(0)", t -> t.machine(0)).with("machine(20)", t -> t.machine(t.feed(0, 0, 0, 0, 0))), 4);
    }

    private static void notSo() {
        Document.says("IV", "5 not so.");
        behind(new Calls().with("advice(1, 0)", t -> t.advice(1, 0)).with("interrupt(1)", t -> t.interrupt(1)), 5);
    }

    private static void inTheirOrder() {
        Document.says("IV", "Refusals of a call are met in the order in which they are told.");
        behind(new Calls().with("advice(2, 4)", t -> t.advice(2, 4)).with("interrupt(-1)", t -> t.interrupt(-1))
            .with("tried(3, 10, -1, 6)", t -> t.tried(3, 10, -1, 6)).with("tried(0, 1, 65536, -1)", t -> t.tried(0, 1, 65536, -1))
            .with("triedWord(3, 10, -1, 16)", t -> t.triedWord(3, 10, -1, 16)), 1);
        behind(new Calls().with("advice(1, 4)", t -> t.advice(1, 4)).with("advice(1, -1)", t -> t.advice(1, -1))
            .with("machine(21) of a FAULT", t -> t.machine(t.feed(0, 0, 0, 0, 0) + 1)), 2);
        TriedLines none = new TriedLines();
        Check.refused(none, "tried() without a MACHINE", none.tried(3, 0, -1, 9), 1);
        Check.refused(none, "triedWord() without a MACHINE", none.triedWord(3, 0, -1, 9), 1);
        Check.refused(none, "best() without a MACHINE", none.best(-1), 1);
        Check.refused(none, "rounds() without a MACHINE", none.rounds(0), 1);
        Check.refused(none, "draws() without a MACHINE", none.draws(0, -1), 1);
        Check.refused(none, "advice() without a MACHINE", none.advice(0, 9), 1);
        Check.refused(none, "interrupt() without a MACHINE", none.interrupt(0), 1);
    }

    private static void constants() {
        Document.says("IV", "The constants: `NONE = -1`: There is none; refused.");
        Check.due("NONE", TriedLines.NONE, -1);
    }

    /** Calls that without a MACHINE are refused by 1. */
    private static void needMachine(Calls calls) {
        TriedLines none = new TriedLines();
        for (Map.Entry<String, ToLongFunction<TriedLines>> each : calls.entrySet()) {
            none.machine(-1);
            Check.refused(none, each.getKey() + " without a MACHINE", each.getValue().applyAsLong(none), 1);
        }
    }

    private static void aheadOfMachine() {
        Document.says("IV",
            "Ahead of the calls `feed`, `machine`, `fault`, `where`, `about`, `deed` the interface says: ---- "
            + "the machine.");
        needMachine(new Calls().with("about(5)", t -> t.about(5)).with("deed(0, 0, 0)", t -> t.deed(0, 0, 0)));
    }

    private static void aheadOfWords() {
        Document.says("IV",
            "Ahead of the calls `word`, `memory`, `serial`, `agrees`, `lock`, `alone` the interface says:",
            "---- memory, words: 1 (no MACHINE, no such ADDRESS).");
        needMachine(new Calls().with("word(0)", t -> t.word(0)).with("memory(0)", t -> t.memory(0))
            .with("serial(0)", t -> t.serial(0)).with("agrees()", t -> t.agrees()).with("lock()", t -> t.lock())
            .with("alone(0, 0)", t -> t.alone(0, 0)));
        for (int words : new int[] {1, 2, 4}) {
            TriedLines t = Check.told(Look.head(1, 1, words, "wins", 1) + ";core");
            int last = 16 * words - 1;
            for (int a : new int[] {0, last}) {
                Check.due("words at " + a, t.word(a) + t.memory(a) + t.serial(a) + t.alone(0, a), 0);
            }
            for (int a : new int[] {-1, last + 1, Integer.MIN_VALUE, Integer.MAX_VALUE}) {
                Check.refused(t, "word(" + a + ")", t.word(a), 1);
                Check.refused(t, "memory(" + a + ")", t.memory(a), 1);
                Check.refused(t, "serial(" + a + ")", t.serial(a), 1);
                Check.refused(t, "alone(0, " + a + ")", t.alone(0, a), 1);
            }
        }
    }

    private static void aheadOfCaches() {
        Document.says("IV",
            "Ahead of the calls `place`, `cached`, `sharers`, `reads`, `writes`, `traffic` the interface says: "
            + "---- caches.");
        needMachine(new Calls().with("place(0, 0, 0, 0)", t -> t.place(0, 0, 0, 0)).with("cached(0, 0)", t -> t.cached(0, 0))
            .with("sharers(0)", t -> t.sharers(0)).with("reads(0)", t -> t.reads(0)).with("writes(0)", t -> t.writes(0))
            .with("traffic(0)", t -> t.traffic(0)));
    }

    private static void aheadOfCores() {
        Document.says("IV", "Ahead of the calls `core`, `count`, `advice`, `commit` the interface says: ---- cores.");
        needMachine(new Calls().with("core(0, 0)", t -> t.core(0, 0)).with("count(0, 0)", t -> t.count(0, 0))
            .with("advice(0, 0)", t -> t.advice(0, 0)).with("commit(0, 0)", t -> t.commit(0, 0)));
    }

    private static void aheadOfSteps() {
        Document.says("IV",
            "Ahead of the calls `would`, `wouldEnd`, `step`, `rounds`, `draws`, `interrupt` the interface says: "
            + "---- steps.");
        needMachine(new Calls().with("would(0)", t -> t.would(0)).with("wouldEnd(0)", t -> t.wouldEnd(0))
            .with("step(0)", t -> t.step(0)).with("rounds(1)", t -> t.rounds(1)).with("draws(1, 1)", t -> t.draws(1, 1))
            .with("interrupt(0)", t -> t.interrupt(0)));
    }

    private static void aheadOfWhatIf() {
        Document.says("IV",
            "Ahead of the calls `tried`, `triedWord`, `best`, `waysFor` the interface says: ---- what if:");
        needMachine(new Calls().with("tried(0, 1, 0, 0)", t -> t.tried(0, 1, 0, 0))
            .with("triedWord(0, 1, 0, 0)", t -> t.triedWord(0, 1, 0, 0)).with("best(0)", t -> t.best(0))
            .with("waysFor(0)", t -> t.waysFor(0)));
    }

    private static void aheadOfKept() {
        Document.says("IV", "Ahead of the calls `keep`, `back` the interface says: ---- what is kept.");
        TriedLines none = new TriedLines();
        Check.due("keep()", none.keep(), false);
        Check.due("its trouble()", none.trouble(), 1);
        none.machine(-1);
        Check.due("back()", none.back(), false);
        Check.due("its trouble()", none.trouble(), 1);
    }

    private static void aheadOfTold() {
        Document.says("IV", "Ahead of the calls `done`, `size`, `trouble` the interface says: ---- what is told.");
        TriedLines none = new TriedLines();
        Check.due("done(0)", Check.done(none, 0), Check.THROWN);
        Check.due("size(0)", none.size(0), 0);
        Check.due("trouble()", none.trouble(), 0);
    }
}
