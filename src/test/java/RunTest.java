/** Promises 17 to 21: give, run, and what is told of the latest run. */
public final class RunTest {
    private static final Checks CHECKS = new Checks();

    public static void main(String[] args) {
        giveTakesConstants();
        runTakesSteps();
        runCountsLines();
        whenGoesItsWays();
        loopGoesOn();
        loopStopsBehindLastLine();
        conditionsOfWords();
        overlongJoin();
        overlongGuard();
        functionsOfWords();
        twentyAreKept();
        placesAreThoseOfThen();
        refusedRunsKeepTheLatest();
        blocksWithinBlocks();
        CHECKS.close("RunTest");
    }

    private static void giveTakesConstants() {
        TaintScanner x = new TaintScanner();
        for (int input = 0; input < 3; input++) {
            CHECKS.holds("17 input " + input, x.give(input, 0x444444 - input));
            x.get(input, input);
            x.sink(input);
        }
        x.run(6);
        for (int input = 0; input < 3; input++) {
            CHECKS.same("17 given " + input, x.passed(input), 0x888888 - 2 * input);
        }
        CHECKS.holds("17 input -1", !x.give(-1, 1));
        CHECKS.holds("17 input 3", !x.give(3, 1));
        for (int word : new int[] {5, 0x10, 0x1111111, -1, Integer.MIN_VALUE, 0x1051}) {
            CHECKS.holds("17 word " + word, !x.give(0, word));
        }
        x.run(6);
        CHECKS.same("17 refused ones change nothing", x.passed(0), 0x888888);
        CHECKS.holds("17 the empty one", x.give(0, 0));
        CHECKS.same("17 told of the latest run", x.passed(0), 0x888888);
        x.run(6);
        CHECKS.same("17 empty now", x.passed(0), 0);
    }

    private static void runTakesSteps() {
        TaintScanner x = new TaintScanner();
        for (int steps : new int[] {0, -1, 1001, Integer.MIN_VALUE, Integer.MAX_VALUE}) {
            CHECKS.same("18 steps " + steps, x.run(steps), -1);
        }
        CHECKS.same("19 none yet", x.ended(), -1);
        CHECKS.same("18 no lines", x.run(1), 0);
        CHECKS.same("19 no lines", x.ended(), 0);
        x.set(0, 0x1);
        x.loop(0, 0, 1);
        CHECKS.same("18 a block is open", x.run(10), -1);
        x.sink(0);
        x.end();
        CHECKS.same("18 a thousand", x.run(1000), 333);
        CHECKS.same("19 a thousand", x.ended(), 1);
    }

    private static void runCountsLines() {
        TaintScanner x = new TaintScanner();
        x.set(0, 0x1);
        x.sink(0);
        x.sink(1);
        int[] handed = {0, 1, 2, 2};
        for (int steps = 1; steps <= 4; steps++) {
            CHECKS.same("18 steps " + steps, x.run(steps), handed[steps - 1]);
            CHECKS.same("19 steps " + steps, x.ended(), steps < 3 ? 1 : 0);
            CHECKS.same("20 first of " + steps, x.passed(0), steps < 2 ? -1 : 1);
            CHECKS.same("20 second of " + steps, x.passed(1), steps < 3 ? -1 : 0);
        }
    }

    /** The least number of steps with which a run of the program comes to its end. */
    private static int need(TaintScanner x) {
        for (int steps = 1; steps <= 1000; steps++) {
            x.run(steps);
            if (x.ended() == 0) {
                return steps;
            }
        }
        return -1;
    }

    private static void whenGoesItsWays() {
        TaintScanner x = new TaintScanner();
        x.get(0, 0);
        x.when(0, 0, 1);
        x.sink(0);
        x.end();
        CHECKS.same("18 does not hold: GET, WHEN", need(x), 2);
        x.give(0, 0x1);
        CHECKS.same("18 holds: GET, WHEN, SINK, END", need(x), 4);
        x.clear();
        x.give(0, 0);
        x.get(0, 0);
        x.when(0, 0, 1);
        x.sink(0);
        x.other();
        x.sink(1);
        x.sink(2);
        x.end();
        CHECKS.same("18 does not hold: GET, WHEN, two SINKs, END", need(x), 5);
        CHECKS.same("21 behind OTHER", x.place(0), 1);
        CHECKS.same("21 behind OTHER, second", x.place(1), 2);
        x.give(0, 0x1);
        CHECKS.same("18 holds: GET, WHEN, SINK, OTHER", need(x), 4);
        CHECKS.same("21 before OTHER", x.place(0), 0);
        CHECKS.same("21 no second", x.place(1), -1);
    }

    private static void loopGoesOn() {
        TaintScanner x = new TaintScanner();
        x.set(1, 0x2);
        x.get(0, 0);
        x.loop(0, 1, 1);
        x.join(2, 2, 1);
        x.get(0, 1);
        x.end();
        x.sink(2);
        CHECKS.same("18 not gone through: SET, GET, LOOP, SINK", need(x), 4);
        x.give(0, 0x1);
        CHECKS.same("18 once: and JOIN, GET, END, LOOP", need(x), 8);
        CHECKS.same("20 once", x.passed(0), 0x3);
        x.give(1, 0x1);
        CHECKS.same("18 overlong in the sixteenth round", x.run(1000), 0);
        CHECKS.same("19 overlong", x.ended(), 2);
        CHECKS.same("18 before that line", x.run(3 + 15 * 4), 0);
        CHECKS.same("19 before that line", x.ended(), 1);
        x.run(3 + 15 * 4 + 1);
        CHECKS.same("19 at that line", x.ended(), 2);
    }

    private static void loopStopsBehindLastLine() {
        TaintScanner x = new TaintScanner();
        x.set(0, 0x1);
        x.loop(0, 0, 1);
        x.set(0, 0);
        x.end();
        x.run(4);
        CHECKS.same("19 END goes to its LOOP", x.ended(), 1);
        x.run(5);
        CHECKS.same("19 LOOP goes behind its END", x.ended(), 0);
    }

    private static void conditionsOfWords() {
        int[] words = {0, 0x3, 0x13, 0x31, 0x131, 0x313, 0x1, 0x12};
        boolean[][] holds = {
            {false, true, true, true, true, true, false, false},
            {false, true, false, true, false, true, false, false},
            {false, true, true, false, false, true, false, false},
        };
        for (int condition = 0; condition < 3; condition++) {
            for (int i = 0; i < words.length; i++) {
                TaintScanner x = new TaintScanner();
                x.give(0, words[i]);
                x.set(0, words[i]);
                x.get(1, 0);
                x.when(0, condition, 3);
                x.sink(0);
                x.end();
                x.when(1, condition, 3);
                x.sink(1);
                x.end();
                String what = "18 condition " + condition + " of " + Integer.toHexString(words[i]);
                CHECKS.same(what, x.run(100), holds[condition][i] ? 2 : 0);
            }
        }
    }

    private static void overlongJoin() {
        TaintScanner x = new TaintScanner();
        x.set(0, 0x123412);
        x.set(1, 0x341);
        x.join(2, 0, 0);
        x.join(2, 2, 1);
        x.sink(2);
        x.join(3, 2, 4);
        x.sink(3);
        x.join(3, 4, 2);
        x.sink(3);
        CHECKS.same("18 fifteen letters", x.run(100), 3);
        CHECKS.same("19 fifteen letters", x.ended(), 0);
        for (int j = 0; j < 3; j++) {
            CHECKS.same("20 fifteen letters " + j, x.passed(j), 0x135713135713571L);
        }
        x.set(4, 0x1);
        x.join(3, 4, 2);
        x.sink(3);
        CHECKS.same("18 sixteen letters", x.run(100), 3);
        CHECKS.same("19 sixteen letters", x.ended(), 2);
        CHECKS.same("18 it is come to", x.run(11), 3);
        CHECKS.same("19 it is come to", x.ended(), 2);
        x.run(10);
        CHECKS.same("19 not come to", x.ended(), 1);
    }

    private static void overlongGuard() {
        TaintScanner x = new TaintScanner();
        x.set(0, 0x343434);
        x.set(1, 0x3);
        x.join(0, 0, 1);
        x.apply(2, 0, 0);
        x.sink(2);
        x.set(1, 0x1);
        x.join(3, 0, 1);
        x.apply(3, 3, 0);
        x.sink(3);
        x.join(3, 0, 1);
        x.join(3, 3, 1);
        x.apply(3, 3, 0);
        x.sink(3);
        CHECKS.same("18 GUARD makes 14, 15, and 16 letters", x.run(100), 2);
        CHECKS.same("19 overlong by GUARD", x.ended(), 2);
        CHECKS.same("20 14 letters", x.passed(0), 0x75777577757775L);
        CHECKS.same("20 15 letters", x.passed(1), 0x757775777577751L);
    }

    private static void functionsOfWords() {
        TaintScanner x = new TaintScanner();
        x.give(2, 0x1234);
        x.get(0, 2);
        x.set(1, 0x1234);
        x.join(0, 0, 1);
        for (int f = 0; f < 3; f++) {
            x.apply(2, 0, f);
            x.sink(2);
        }
        x.sink(0);
        CHECKS.same("18 functions", x.run(100), 4);
        CHECKS.same("20 GUARD", x.passed(0), 0x248688137577L);
        CHECKS.same("20 STRIP", x.passed(1), 0x248137);
        CHECKS.same("20 FOLD", x.passed(2), 0x44683357L);
        CHECKS.same("20 as it was", x.passed(3), 0x24681357L);
    }

    private static void twentyAreKept() {
        TaintScanner x = new TaintScanner();
        x.set(0, 0x1);
        x.loop(0, 0, 1);
        x.sink(0);
        x.sink(1);
        x.end();
        CHECKS.same("18 all are counted", x.run(1 + 4 * 12), 24);
        for (int j = 0; j < 20; j++) {
            CHECKS.same("20 kept " + j, x.passed(j), j % 2 == 0 ? 1 : 0);
            CHECKS.same("21 kept " + j, x.place(j), j % 2);
        }
        for (int j : new int[] {-1, 20, 21, 24, Integer.MIN_VALUE, Integer.MAX_VALUE}) {
            CHECKS.same("20 not kept " + j, x.passed(j), -1);
            CHECKS.same("21 not kept " + j, x.place(j), -1);
        }
        CHECKS.same("18 two", x.run(4), 2);
        CHECKS.same("20 second", x.passed(1), 0);
        CHECKS.same("20 no third", x.passed(2), -1);
        CHECKS.same("21 no third", x.place(2), -1);
    }

    private static void placesAreThoseOfThen() {
        TaintScanner x = new TaintScanner();
        x.sink(0);
        x.set(1, 0x2);
        x.sink(1);
        x.run(3);
        x.clear();
        x.set(0, 0x1);
        x.sink(0);
        CHECKS.same("20 of then", x.passed(1), 0x3);
        CHECKS.same("21 of then", x.place(1), 1);
        x.run(2);
        CHECKS.same("20 anew", x.passed(0), 0x1);
        CHECKS.same("21 anew", x.place(0), 0);
        CHECKS.same("21 no second", x.place(1), -1);
    }

    private static void refusedRunsKeepTheLatest() {
        TaintScanner x = new TaintScanner();
        x.set(0, 0x1);
        x.sink(0);
        x.sink(0);
        x.run(2);
        x.loop(0, 0, 1);
        CHECKS.same("18 open", x.run(5), -1);
        CHECKS.same("18 steps", x.run(0), -1);
        CHECKS.same("19 stays", x.ended(), 1);
        CHECKS.same("20 stays", x.passed(0), 1);
        CHECKS.same("21 stays", x.place(0), 0);
        CHECKS.same("20 no more", x.passed(1), -1);
    }

    /** WHEN { LOOP { WHEN .. OTHER .. } } OTHER { WHEN .. } */
    private static void blocksWithinBlocks() {
        TaintScanner x = new TaintScanner();
        x.get(0, 0);
        x.when(0, 1, 1);
        x.loop(0, 1, 1);
        x.when(0, 2, 2);
        x.sink(0);
        x.get(0, 1);
        x.other();
        x.sink(0);
        x.get(0, 2);
        x.end();
        x.end();
        x.other();
        x.when(0, 0, 3);
        x.sink(0);
        x.end();
        x.end();
        x.sink(0);
        x.give(0, 0x12);
        x.give(1, 0x1);
        x.give(2, 0x2);
        CHECKS.same("18 GET, WHEN, LOOP, WHEN, SINK, GET, OTHER, END, LOOP, WHEN, SINK, GET, END, END, LOOP, OTHER, SINK", need(x), 17);
        long[] words = {0x24, 0x2, 0x4};
        int[] places = {0, 1, 3};
        for (int j = 0; j < 3; j++) {
            CHECKS.same("20 blocks " + j, x.passed(j), words[j]);
            CHECKS.same("21 blocks " + j, x.place(j), places[j]);
        }
        x.give(0, 0x3);
        CHECKS.same("18 GET, WHEN, WHEN, SINK, END, END, SINK", need(x), 7);
        CHECKS.same("21 the inner WHEN", x.place(0), 2);
        x.give(0, 0x2);
        CHECKS.same("18 GET, WHEN, WHEN, END, SINK", need(x), 5);
        CHECKS.same("21 the last", x.place(0), 3);
    }
}
