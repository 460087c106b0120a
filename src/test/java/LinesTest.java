/** Promises 1 to 11: a new object, the calls that add lines, and clear. */
public final class LinesTest {
    private static final Checks CHECKS = new Checks();

    public static void main(String[] args) {
        newObject();
        setTakesConstants();
        getTakesInputs();
        joinTakesVariables();
        applyTakesFunctions();
        sinkTakesSix();
        openingTakesConditions(true);
        openingTakesConditions(false);
        threeBlocksAtMost();
        otherNeedsWhen();
        endNeedsBlock();
        twentyFourLines();
        clearForgetsLines();
        CHECKS.close("LinesTest");
    }

    private static void newObject() {
        TaintScanner x = new TaintScanner();
        CHECKS.same("1 no lines", x.clear(), 0);
        CHECKS.same("1 no block open", x.end(), -1);
        CHECKS.same("1 no run yet", x.ended(), -1);
        CHECKS.same("1 no word passed", x.passed(0), -1);
        CHECKS.same("1 no place", x.place(0), -1);
        CHECKS.same("1 no sink", x.size(0), -1);
        for (int input = 0; input < 3; input++) {
            x.get(input, input);
            x.sink(input);
        }
        CHECKS.same("1 inputs run", x.run(6), 3);
        for (int input = 0; input < 3; input++) {
            CHECKS.same("1 input " + input + " is empty", x.passed(input), 0);
        }
        CHECKS.same("1 the constant", TaintScanner.NONE, -1);
    }

    private static void setTakesConstants() {
        TaintScanner x = new TaintScanner();
        CHECKS.same("2 a line", x.set(0, 1), 1);
        CHECKS.same("2 empty constant", x.set(4, 0), 2);
        CHECKS.same("2 six digits", x.set(1, 0x444444), 3);
        CHECKS.same("2 all symbols", x.set(1, 0x1234), 4);
        int[] wrong = {5, 0x1111111, 0x10, 0x101, 0x100000, 0x151, 0x144445, -1, Integer.MIN_VALUE, Integer.MAX_VALUE, 0x11111111};
        for (int constant : wrong) {
            CHECKS.same("2 constant " + constant, x.set(0, constant), -1);
        }
        CHECKS.same("2 variable -1", x.set(-1, 1), -1);
        CHECKS.same("2 variable 5", x.set(5, 1), -1);
        CHECKS.same("2 refused calls add none", x.set(0, 1), 5);
        x.clear();
        x.set(2, 0x1234);
        x.sink(2);
        x.run(2);
        CHECKS.same("2 letters are not tainted", x.passed(0), 0x1357);
    }

    private static void getTakesInputs() {
        TaintScanner x = new TaintScanner();
        CHECKS.same("3 input 0", x.get(0, 0), 1);
        CHECKS.same("3 input 2", x.get(4, 2), 2);
        CHECKS.same("3 input -1", x.get(0, -1), -1);
        CHECKS.same("3 input 3", x.get(0, 3), -1);
        CHECKS.same("3 variable -1", x.get(-1, 0), -1);
        CHECKS.same("3 variable 5", x.get(5, 0), -1);
        x.sink(4);
        x.give(2, 0x1234);
        x.run(3);
        CHECKS.same("3 letters are tainted", x.passed(0), 0x2468);
    }

    private static void joinTakesVariables() {
        TaintScanner x = new TaintScanner();
        CHECKS.same("4 a line", x.join(0, 4, 3), 1);
        for (int wrong : new int[] {-1, 5, Integer.MAX_VALUE, Integer.MIN_VALUE}) {
            CHECKS.same("4 v " + wrong, x.join(wrong, 0, 0), -1);
            CHECKS.same("4 a " + wrong, x.join(0, wrong, 0), -1);
            CHECKS.same("4 b " + wrong, x.join(0, 0, wrong), -1);
        }
        CHECKS.same("4 one variable thrice", x.join(1, 1, 1), 2);
    }

    private static void applyTakesFunctions() {
        TaintScanner x = new TaintScanner();
        for (int f = 0; f < 3; f++) {
            CHECKS.same("5 function " + f, x.apply(4, 0, f), f + 1);
        }
        CHECKS.same("5 function -1", x.apply(0, 0, -1), -1);
        CHECKS.same("5 function 3", x.apply(0, 0, 3), -1);
        CHECKS.same("5 v -1", x.apply(-1, 0, 0), -1);
        CHECKS.same("5 v 5", x.apply(5, 0, 0), -1);
        CHECKS.same("5 a -1", x.apply(0, -1, 0), -1);
        CHECKS.same("5 a 5", x.apply(0, 5, 0), -1);
        CHECKS.same("5 refused calls add none", x.apply(0, 0, 0), 4);
    }

    private static void sinkTakesSix() {
        TaintScanner x = new TaintScanner();
        CHECKS.same("6 v -1", x.sink(-1), -1);
        CHECKS.same("6 v 5", x.sink(5), -1);
        for (int k = 0; k < 6; k++) {
            CHECKS.same("6 sink " + k, x.sink(k % 5), k + 1);
        }
        CHECKS.same("6 a seventh sink", x.sink(0), -1);
        CHECKS.same("6 another line", x.set(0, 1), 7);
        x.clear();
        CHECKS.same("6 sinks anew", x.sink(0), 1);
    }

    private static int opening(TaintScanner x, boolean when, int v, int condition, int symbol) {
        return when ? x.when(v, condition, symbol) : x.loop(v, condition, symbol);
    }

    private static void openingTakesConditions(boolean when) {
        String promise = when ? "7 " : "9 ";
        TaintScanner x = new TaintScanner();
        int[][] wrong = {{-1, 0, 1}, {5, 0, 1}, {0, -1, 1}, {0, 3, 1}, {0, 0, 0}, {0, 0, 5}, {0, 0, -1}};
        for (int[] w : wrong) {
            CHECKS.same(promise + w[0] + " " + w[1] + " " + w[2], opening(x, when, w[0], w[1], w[2]), -1);
        }
        CHECKS.same(promise + "nothing open", x.end(), -1);
        for (int condition = 0; condition < 3; condition++) {
            for (int symbol = 1; symbol <= 4; symbol++) {
                String what = promise + condition + " " + symbol;
                CHECKS.same(what, opening(x, when, symbol, condition, symbol), 1);
                CHECKS.same(what + " end", x.end(), 2);
                x.clear();
            }
        }
    }

    private static void threeBlocksAtMost() {
        for (int kinds = 0; kinds < 8; kinds++) {
            TaintScanner x = new TaintScanner();
            for (int depth = 0; depth < 3; depth++) {
                CHECKS.same("7, 9 depth " + depth, opening(x, (kinds >> depth & 1) == 1, 0, 0, 1), depth + 1);
            }
            CHECKS.same("7 a fourth block", x.when(0, 0, 1), -1);
            CHECKS.same("9 a fourth block", x.loop(0, 0, 1), -1);
            CHECKS.same("10 the third ends", x.end(), 4);
            CHECKS.same("9 a third block again", x.loop(0, 0, 1), 5);
            CHECKS.same("7 a fourth block again", x.when(0, 0, 1), -1);
        }
    }

    private static void otherNeedsWhen() {
        TaintScanner x = new TaintScanner();
        CHECKS.same("8 no block", x.other(), -1);
        x.loop(0, 0, 1);
        CHECKS.same("8 in a LOOP", x.other(), -1);
        x.when(0, 0, 1);
        CHECKS.same("8 in a WHEN", x.other(), 3);
        CHECKS.same("8 a second OTHER", x.other(), -1);
        x.when(0, 0, 1);
        CHECKS.same("8 WHEN within OTHER", x.other(), 5);
        CHECKS.same("8 a second one there", x.other(), -1);
        x.end();
        CHECKS.same("8 the outer one has its OTHER still", x.other(), -1);
        x.end();
        CHECKS.same("8 back in the LOOP", x.other(), -1);
        x.end();
        CHECKS.same("8 behind all", x.other(), -1);
        x.clear();
        x.when(0, 0, 1);
        x.loop(0, 0, 1);
        CHECKS.same("8 a LOOP within a WHEN", x.other(), -1);
        x.end();
        CHECKS.same("8 WHEN behind its LOOP", x.other(), 4);
        CHECKS.same("8 lines", x.clear(), 4);
    }

    private static void endNeedsBlock() {
        TaintScanner x = new TaintScanner();
        CHECKS.same("10 no block", x.end(), -1);
        x.when(0, 0, 1);
        x.loop(0, 0, 1);
        CHECKS.same("10 LOOP", x.end(), 3);
        x.other();
        CHECKS.same("10 OTHER", x.end(), 5);
        CHECKS.same("10 none left", x.end(), -1);
    }

    private static void twentyFourLines() {
        TaintScanner x = new TaintScanner();
        x.when(0, 0, 1);
        for (int i = 2; i <= 24; i++) {
            CHECKS.same("2 line " + i, x.set(0, 1), i);
        }
        CHECKS.same("2 full", x.set(0, 1), -1);
        CHECKS.same("3 full", x.get(0, 0), -1);
        CHECKS.same("4 full", x.join(0, 0, 0), -1);
        CHECKS.same("5 full", x.apply(0, 0, 0), -1);
        CHECKS.same("6 full", x.sink(0), -1);
        CHECKS.same("7 full", x.when(0, 0, 1), -1);
        CHECKS.same("8 full", x.other(), -1);
        CHECKS.same("9 full", x.loop(0, 0, 1), -1);
        CHECKS.same("10 full", x.end(), -1);
        CHECKS.same("12 open for good", x.analyse(), -1);
        CHECKS.same("18 open for good", x.run(10), -1);
        CHECKS.same("11 full", x.clear(), 24);
        CHECKS.same("2 again", x.set(0, 1), 1);
    }

    private static void clearForgetsLines() {
        TaintScanner x = new TaintScanner();
        x.give(1, 0x12);
        x.get(0, 1);
        x.sink(0);
        x.sink(0);
        x.analyse();
        x.run(10);
        CHECKS.same("11 how many there were", x.clear(), 3);
        CHECKS.same("11 none any more", x.clear(), 0);
        CHECKS.same("11 no analysis", x.size(0), -1);
        CHECKS.same("11 passes stay", x.passed(1), 0x24);
        CHECKS.same("11 places stay", x.place(1), 1);
        CHECKS.same("11 the ending stays", x.ended(), 0);
        x.get(3, 1);
        x.sink(3);
        x.run(10);
        CHECKS.same("11 inputs stay", x.passed(0), 0x24);
        x.clear();
        x.when(0, 0, 1);
        x.clear();
        CHECKS.same("11 no block is open", x.end(), -1);
        CHECKS.same("11 nor kept from analysis", x.analyse(), 0);
    }
}
