import java.util.ArrayList;
import java.util.List;

/**
 * "A call that is refused changes nothing": every refusal that the document tells, in every state in
 * which it is due. Behind it every question answers as before, and more lines, an analysis and runs
 * bring what they bring to a twin that was never asked for it.
 */
public final class RefusalTest {
    private static final Checks CHECKS = new Checks();
    private static final int LOWEST = Integer.MIN_VALUE;
    private static final int HIGHEST = Integer.MAX_VALUE;

    /** How many lines analysedAndRun adds. */
    private static final int LINES = 8;

    private static final int[] NO_VARIABLES = {LOWEST, -1, 5, HIGHEST};
    private static final int[] NO_CHOICES = {LOWEST, -1, 3, HIGHEST};
    private static final int[] NO_SYMBOLS = {LOWEST, -1, 0, 5, HIGHEST};
    private static final int[] NO_STEPS = {LOWEST, -1, 0, 1001, HIGHEST};
    private static final int[] NO_CONSTANTS = {
        LOWEST, -1, 5, 0x10, 0x15, 0x51, 0x102, 0x444445, 0x144440, 0x1111111, 0x4444444, 0x11111111, 0x81111111, HIGHEST};
    private static final long[] NO_WORDS = {
        Long.MIN_VALUE, -1, 9, 0x10, 0x19, 0x91, 0x102, 0x888888888888889L, 0x1111111111111111L, 0x8888888888888888L, Long.MAX_VALUE};

    private interface Call {
        long on(TaintScanner x);
    }

    private record Refusal(String name, Call call, long answer) {
    }

    private interface Builder {
        void build(TaintScanner x);
    }

    private static final List<Refusal> REFUSALS = new ArrayList<>();

    public static void main(String[] args) {
        inEveryState();
        List<Refusal> always = new ArrayList<>(REFUSALS);

        begin(always);
        noBlock();
        check("a new object", x -> { });
        begin(always);
        noBlock();
        check("analysed and run", RefusalTest::analysedAndRun);
        begin(always);
        noBlock();
        check("cleared", x -> {
            analysedAndRun(x);
            x.clear();
        });
        begin(always);
        openBlock();
        check("an open WHEN", x -> {
            analysedAndRun(x);
            x.when(0, 0, 1);
        });
        begin(always);
        openBlock();
        add("other()", x -> x.other());
        check("an open WHEN with OTHER", x -> {
            analysedAndRun(x);
            x.when(0, 0, 1);
            x.other();
        });
        begin(always);
        openBlock();
        add("other()", x -> x.other());
        check("an open LOOP in a WHEN", x -> {
            analysedAndRun(x);
            x.when(0, 0, 1);
            x.loop(0, 0, 1);
        });
        begin(always);
        openBlock();
        add("when(0, 0, 1)", x -> x.when(0, 0, 1));
        add("loop(4, 2, 4)", x -> x.loop(4, 2, 4));
        check("three open blocks", x -> {
            analysedAndRun(x);
            x.loop(0, 0, 1);
            x.when(1, 0, 1);
            x.when(2, 0, 1);
        });
        sinksAndLines(always);
        CHECKS.close("RefusalTest");
    }

    private static void sinksAndLines(List<Refusal> always) {
        begin(always);
        noBlock();
        add("sink(0)", x -> x.sink(0));
        add("sink(4)", x -> x.sink(4));
        check("six sinks", x -> {
            analysedAndRun(x);
            for (int k = 2; k < 6; k++) {
                x.sink(k - 1);
            }
            x.analyse();
        });
        begin(always);
        noBlock();
        noLine();
        check("24 lines", x -> {
            analysedAndRun(x);
            fill(x, 24);
            x.analyse();
        });
        begin(always);
        openBlock();
        noLine();
        add("end()", x -> x.end());
        add("other()", x -> x.other());
        check("24 lines and an open WHEN", x -> {
            analysedAndRun(x);
            fill(x, 23);
            x.when(0, 0, 1);
        });
    }

    /** Eight lines with a loop and two sinks of which one is unsafe, inputs, an analysis, and a run that lacks one step. */
    private static void analysedAndRun(TaintScanner x) {
        x.give(0, 0x12);
        x.give(1, 0x343434);
        x.give(2, 0x3);
        x.get(0, 0);
        x.set(1, 0x2);
        x.loop(0, 1, 1);
        x.join(2, 1, 2);
        x.get(0, 2);
        x.end();
        x.sink(2);
        x.sink(0);
        x.run(8);
        x.analyse();
    }

    private static void fill(TaintScanner x, int lines) {
        for (int i = LINES; i < lines; i++) {
            x.set(3, 0x1);
        }
    }

    private static void begin(List<Refusal> refusals) {
        REFUSALS.clear();
        REFUSALS.addAll(refusals);
    }

    private static void add(String name, Call call) {
        REFUSALS.add(new Refusal(name, call, -1));
    }

    private static void noBlock() {
        add("other()", x -> x.other());
        add("end()", x -> x.end());
    }

    private static void openBlock() {
        add("analyse()", x -> x.analyse());
        add("run(1)", x -> x.run(1));
        add("run(1000)", x -> x.run(1000));
    }

    private static void noLine() {
        add("set(0, 0)", x -> x.set(0, 0));
        add("get(0, 0)", x -> x.get(0, 0));
        add("join(0, 0, 0)", x -> x.join(0, 0, 0));
        add("apply(0, 0, 0)", x -> x.apply(0, 0, 0));
        add("sink(0)", x -> x.sink(0));
        add("when(0, 0, 1)", x -> x.when(0, 0, 1));
        add("loop(0, 0, 1)", x -> x.loop(0, 0, 1));
    }

    private static void inEveryState() {
        for (int v : NO_VARIABLES) {
            add("set v " + v, x -> x.set(v, 0x1));
            add("get v " + v, x -> x.get(v, 0));
            add("join v " + v, x -> x.join(v, 0, 0));
            add("join a " + v, x -> x.join(0, v, 0));
            add("join b " + v, x -> x.join(0, 0, v));
            add("apply v " + v, x -> x.apply(v, 0, 0));
            add("apply a " + v, x -> x.apply(0, v, 0));
            add("sink v " + v, x -> x.sink(v));
            add("when v " + v, x -> x.when(v, 0, 1));
            add("loop v " + v, x -> x.loop(v, 0, 1));
        }
        for (int c : NO_CHOICES) {
            add("get input " + c, x -> x.get(0, c));
            add("apply f " + c, x -> x.apply(0, 0, c));
            add("when condition " + c, x -> x.when(0, c, 1));
            add("loop condition " + c, x -> x.loop(0, c, 1));
            REFUSALS.add(new Refusal("give input " + c, x -> x.give(c, 0x4) ? 1 : 0, 0));
        }
        for (int s : NO_SYMBOLS) {
            add("when symbol " + s, x -> x.when(0, 0, s));
            add("loop symbol " + s, x -> x.loop(0, 0, s));
        }
        for (int c : NO_CONSTANTS) {
            add("set constant " + c, x -> x.set(0, c));
            REFUSALS.add(new Refusal("give word " + c, x -> x.give(0, c) ? 1 : 0, 0));
        }
        for (int steps : NO_STEPS) {
            add("run " + steps, x -> x.run(steps));
        }
        questions();
    }

    private static void questions() {
        for (int k : new int[] {LOWEST, -1, 6, 7, HIGHEST}) {
            add("size " + k, x -> x.size(k));
            add("accepts sink " + k, x -> x.accepts(k, 0));
            add("witness sink " + k, x -> x.witness(k, 0));
        }
        for (int i : new int[] {LOWEST, -1}) {
            add("witness letter " + i, x -> x.witness(0, i));
            add("witness letter " + i + " of sink 1", x -> x.witness(1, i));
        }
        for (int i : new int[] {LOWEST, -1, 0, 24, 25, HIGHEST}) {
            add("rounds " + i, x -> x.rounds(i));
        }
        for (int j : new int[] {LOWEST, -1, 20, HIGHEST}) {
            add("passed " + j, x -> x.passed(j));
            add("place " + j, x -> x.place(j));
        }
        for (long word : NO_WORDS) {
            add("accepts " + word, x -> x.accepts(0, word));
            add("attack " + word, x -> x.attack(word));
        }
    }

    private static TaintScanner built(Builder builder) {
        TaintScanner x = new TaintScanner();
        builder.build(x);
        return x;
    }

    private static void check(String state, Builder builder) {
        TaintScanner twin = built(builder);
        String now = Answers.now(twin);
        String later = Answers.later(twin);
        for (Refusal refusal : REFUSALS) {
            TaintScanner x = built(builder);
            String what = state + ": " + refusal.name;
            CHECKS.holds(what + ", before", Answers.now(x).equals(now));
            CHECKS.same(what, refusal.call.on(x), refusal.answer);
            CHECKS.holds(what + ", behind it", Answers.now(x).equals(now));
            CHECKS.holds(what + ", later", Answers.later(x).equals(later));
        }
    }
}
