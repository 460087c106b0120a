/** Promises 17 to 21 at their bounds: steps, the last line, OVERLONG, the first 20 words, the latest run. */
public final class RunBoundsTest {
    private static final Checks CHECKS = new Checks();
    private static final int BEHIND_LAST = 0;
    private static final int USED_UP = 1;
    private static final int OVERLONG = 2;
    private static final int HAS = 0;
    private static final int A = 1;

    public static void main(String[] args) {
        noRunYet();
        noLines();
        stepsAtTheirBounds();
        straightPrograms();
        lastLinesOfBlocks();
        joinedLengths();
        joinOfOneVariable();
        guardedLengths();
        functionsOf15Letters();
        overlongLineAtItsStep();
        overlongAsLastLine();
        overlongOnAnotherWay();
        firstTwentyAreKept();
        fewerWordsNextTime();
        variablesAreEmptyAgain();
        inputsAtTheirBounds();
        latestRunBehindRefusedOnes();
        latestRunBehindOtherCalls();
        latestRunBehindClear();
        CHECKS.close("RunBoundsTest");
    }

    /** A run's answer and how it ended. */
    private static void run(TaintScanner x, String what, int steps, int words, int ending) {
        CHECKS.same("18 " + what + ", steps " + steps, x.run(steps), words);
        CHECKS.same("19 " + what + ", steps " + steps, x.ended(), ending);
    }

    private static void noWord(TaintScanner x, String what, int j) {
        CHECKS.same("20 " + what + ", word " + j, x.passed(j), -1);
        CHECKS.same("21 " + what + ", word " + j, x.place(j), -1);
    }

    private static void noRunYet() {
        TaintScanner x = new TaintScanner();
        CHECKS.same("19 no run", x.ended(), -1);
        for (int j : new int[] {Integer.MIN_VALUE, -1, 0, 1, 19, 20, Integer.MAX_VALUE}) {
            noWord(x, "no run", j);
        }
        x.sink(0);
        x.run(0);
        x.run(1001);
        x.analyse();
        CHECKS.same("19 refused ones are no runs", x.ended(), -1);
        noWord(x, "refused ones are no runs", 0);
    }

    private static void noLines() {
        TaintScanner x = new TaintScanner();
        for (int steps : new int[] {1, 2, 999, 1000}) {
            run(x, "no lines", steps, 0, BEHIND_LAST);
            noWord(x, "no lines", 0);
        }
    }

    /** Two words in four steps, without end: "NONE when steps is not 1 .. 1000". */
    private static void stepsAtTheirBounds() {
        TaintScanner x = new TaintScanner();
        x.set(0, 0x1);
        x.loop(0, HAS, A);
        x.sink(0);
        x.sink(1);
        x.end();
        int[] steps = {1, 2, 3, 4, 5, 6, 7, 8, 997, 998, 999, 1000};
        int[] words = {0, 0, 1, 2, 2, 2, 3, 4, 498, 498, 499, 500};
        for (int i = 0; i < steps.length; i++) {
            run(x, "without end", steps[i], words[i], USED_UP);
        }
        for (int none : new int[] {Integer.MIN_VALUE, Integer.MIN_VALUE + 1, -1000, -1, 0, 1001, 1002, Integer.MAX_VALUE}) {
            CHECKS.same("18 steps " + none, x.run(none), -1);
            CHECKS.same("19 behind steps " + none, x.ended(), USED_UP);
            CHECKS.same("20 behind steps " + none, x.passed(19), 0);
        }
    }

    /** "It stops behind the last line (also when all are used up there); before a line, when all are used up". */
    private static void straightPrograms() {
        for (int lines = 1; lines <= 24; lines++) {
            TaintScanner x = new TaintScanner();
            for (int i = 1; i < lines; i++) {
                x.set(0, 0x1);
            }
            x.sink(0);
            String what = lines + " lines";
            if (lines > 1) {
                run(x, what, lines - 1, 0, USED_UP);
                noWord(x, what, 0);
            }
            run(x, what, lines, 1, BEHIND_LAST);
            CHECKS.same("20 " + what, x.passed(0), lines > 1 ? 1 : 0);
            run(x, what, lines + 1, 1, BEHIND_LAST);
            run(x, what, 1000, 1, BEHIND_LAST);
            CHECKS.same("21 " + what, x.place(0), 0);
        }
    }

    /** A run needs that many steps to be behind the last line, and no fewer. */
    private static void needs(TaintScanner x, String what, int steps) {
        for (int fewer = 1; fewer < steps; fewer++) {
            run(x, what, fewer, 0, USED_UP);
        }
        run(x, what, steps, 0, BEHIND_LAST);
        run(x, what, steps + 1, 0, BEHIND_LAST);
    }

    private static void lastLinesOfBlocks() {
        TaintScanner x = new TaintScanner();
        x.when(0, HAS, A);
        x.end();
        needs(x, "WHEN, which goes behind its END", 1);
        x.clear();
        x.when(0, HAS, A);
        x.other();
        x.end();
        needs(x, "WHEN, which goes behind its OTHER; END", 2);
        x.clear();
        x.set(0, 0x1);
        x.when(0, HAS, A);
        x.end();
        needs(x, "SET, WHEN, END", 3);
        x.clear();
        x.set(0, 0x1);
        x.when(0, HAS, A);
        x.other();
        x.set(0, 0);
        x.end();
        needs(x, "SET, WHEN, OTHER, which goes behind its END", 3);
        x.clear();
        x.loop(0, HAS, A);
        x.end();
        needs(x, "LOOP, which goes behind its END", 1);
        x.clear();
        x.set(0, 0x1);
        x.loop(0, HAS, A);
        x.set(0, 0);
        x.end();
        needs(x, "SET, LOOP, SET, END, LOOP", 5);
        x.clear();
        x.set(0, 0x1);
        x.loop(0, HAS, A);
        x.when(0, HAS, A);
        x.set(0, 0);
        x.end();
        x.end();
        needs(x, "SET, LOOP, WHEN, SET, END, END, LOOP", 7);
    }

    private static long letters(int n) {
        return n == 0 ? 0 : 0x111111111111111L >> 4 * (15 - n);
    }

    /** "A value of more than 15 letters": all lengths of two that are joined. */
    private static void joinedLengths() {
        for (int one = 0; one <= 15; one++) {
            for (int another = 0; another <= 15; another++) {
                TaintScanner x = new TaintScanner();
                Lines.addLetters(x, 0, 2, A, one);
                Lines.addLetters(x, 1, 2, A, another);
                x.join(3, 0, 1);
                x.sink(3);
                boolean fits = one + another <= 15;
                String what = one + " and " + another + " letters";
                run(x, what, 100, fits ? 1 : 0, fits ? BEHIND_LAST : OVERLONG);
                CHECKS.same("20 " + what, x.passed(0), fits ? letters(one + another) : -1);
            }
        }
    }

    private static void joinOfOneVariable() {
        for (int n = 6; n <= 9; n++) {
            TaintScanner x = new TaintScanner();
            Lines.addLetters(x, 0, 2, A, n);
            x.sink(0);
            x.join(0, 0, 0);
            x.sink(0);
            String what = "twice " + n + " letters";
            run(x, what, 100, n < 8 ? 2 : 1, n < 8 ? BEHIND_LAST : OVERLONG);
            CHECKS.same("20 before " + what, x.passed(0), letters(n));
            CHECKS.same("20 " + what, x.passed(1), n < 8 ? letters(2 * n) : -1);
        }
    }

    /** Quotes and escapes, tainted and not, count twice; a and b once. */
    private static void guardedLengths() {
        for (int symbol = 1; symbol <= 4; symbol++) {
            for (int special = 0; special <= 6; special++) {
                for (int plain = 0; plain + special <= 15; plain++) {
                    TaintScanner x = new TaintScanner();
                    int constant = special == 0 ? 0 : symbol * (0x111111 >> 4 * (6 - special));
                    Lines.addLetters(x, 0, 2, A, plain);
                    x.give(0, constant);
                    x.get(1, 0);
                    x.join(0, 0, 1);
                    x.apply(3, 0, 0);
                    x.sink(3);
                    boolean fits = plain + (symbol >= 3 ? 2 : 1) * special <= 15;
                    String what = "GUARD of " + plain + " and " + special + " of symbol " + symbol;
                    run(x, what, 100, fits ? 1 : 0, fits ? BEHIND_LAST : OVERLONG);
                }
            }
        }
        for (int quotes = 6; quotes <= 15; quotes++) {
            TaintScanner x = new TaintScanner();
            x.set(0, 0x343434);
            x.set(1, 0x3);
            for (int i = 6; i < quotes; i++) {
                x.join(0, 0, 1);
            }
            x.apply(0, 0, 0);
            boolean fits = quotes <= 7;
            run(x, "GUARD of " + quotes, 100, 0, fits ? BEHIND_LAST : OVERLONG);
        }
    }

    private static void functionsOf15Letters() {
        TaintScanner x = new TaintScanner();
        x.set(0, 0x123412);
        x.set(1, 0x341);
        x.join(2, 0, 0);
        x.join(2, 2, 1);
        x.apply(3, 2, 1);
        x.sink(3);
        x.apply(3, 2, 2);
        x.sink(3);
        x.set(4, 0x111111);
        x.join(3, 4, 4);
        x.set(4, 0x111);
        x.join(3, 3, 4);
        x.apply(3, 3, 0);
        x.sink(3);
        run(x, "15 letters", 14, 3, BEHIND_LAST);
        CHECKS.same("20 STRIP", x.passed(0), 0x137131371371L);
        CHECKS.same("20 FOLD", x.passed(1), 0x335733335733573L);
        CHECKS.same("20 GUARD", x.passed(2), 0x111111111111111L);
    }

    /** The OVERLONG line is come to with the last step, and not with one less; more change nothing. */
    private static void overlongLineAtItsStep() {
        TaintScanner x = new TaintScanner();
        x.set(0, 0x222222);
        x.sink(0);
        x.join(0, 0, 0);
        x.sink(0);
        x.join(0, 0, 0);
        x.sink(0);
        int[] words = {0, 1, 1, 2, 2, 2, 2};
        for (int steps = 1; steps <= 7; steps++) {
            run(x, "OVERLONG is line 5", steps, words[steps - 1], steps < 5 ? USED_UP : OVERLONG);
        }
        run(x, "OVERLONG is line 5", 1000, 2, OVERLONG);
        CHECKS.same("20 before it", x.passed(1), 0x333333333333L);
        noWord(x, "behind it", 2);
    }

    private static void overlongAsLastLine() {
        TaintScanner x = new TaintScanner();
        x.set(0, 0x333333);
        x.join(0, 0, 0);
        x.sink(0);
        x.apply(1, 0, 0);
        run(x, "GUARD is the last line", 3, 1, USED_UP);
        run(x, "GUARD is the last line", 4, 1, OVERLONG);
        x.clear();
        x.set(0, 0x333333);
        x.join(0, 0, 0);
        x.join(0, 0, 0);
        run(x, "JOIN is the last line", 2, 0, USED_UP);
        run(x, "JOIN is the last line", 3, 0, OVERLONG);
    }

    private static void overlongOnAnotherWay() {
        TaintScanner x = new TaintScanner();
        x.set(0, 0x222222);
        x.join(0, 0, 0);
        x.when(0, HAS, A);
        x.join(0, 0, 0);
        x.end();
        x.loop(0, HAS, A);
        x.join(0, 0, 0);
        x.end();
        x.sink(0);
        run(x, "not gone through", 5, 1, BEHIND_LAST);
        CHECKS.same("20 not gone through", x.passed(0), 0x333333333333L);
    }

    /** "The first 20 are kept": of 0 to 23 words, and of 500; all are counted. */
    private static void firstTwentyAreKept() {
        for (int words = 0; words <= 24; words++) {
            int handed = words == 24 ? 500 : words;
            TaintScanner x = new TaintScanner();
            x.set(0, 0x2);
            x.loop(0, HAS, 2);
            x.sink(0);
            x.sink(1);
            x.end();
            int steps = handed == 0 ? 1 : 1 + 4 * ((handed - 1) / 2) + (handed % 2 == 0 ? 3 : 2);
            String what = handed + " words";
            run(x, what, steps, handed, USED_UP);
            for (int j = 0; j < 25; j++) {
                boolean kept = j < handed && j < 20;
                CHECKS.same("20 " + what + ", word " + j, x.passed(j), kept ? j % 2 == 0 ? 3 : 0 : -1);
                CHECKS.same("21 " + what + ", word " + j, x.place(j), kept ? j % 2 : -1);
            }
            for (int j : new int[] {Integer.MIN_VALUE, Integer.MIN_VALUE + 1, -2, -1, 499, 500, Integer.MAX_VALUE}) {
                noWord(x, what, j);
            }
        }
    }

    /** What an earlier run handed is not told any more, not even where the latest one handed less. */
    private static void fewerWordsNextTime() {
        TaintScanner x = new TaintScanner();
        x.set(0, 0x2);
        x.loop(0, HAS, 2);
        x.sink(0);
        x.sink(1);
        x.end();
        int[] steps = {1000, 44, 40, 36, 7, 4, 3, 2, 1};
        int[] words = {500, 22, 20, 18, 3, 2, 1, 0, 0};
        for (int i = 0; i < steps.length; i++) {
            run(x, "fewer", steps[i], words[i], USED_UP);
            for (int j = Math.max(0, words[i] - 2); j < 22; j++) {
                boolean kept = j < words[i] && j < 20;
                CHECKS.same("20 of " + words[i] + ", word " + j, x.passed(j), kept ? j % 2 == 0 ? 3 : 0 : -1);
                CHECKS.same("21 of " + words[i] + ", word " + j, x.place(j), kept ? j % 2 : -1);
            }
        }
    }

    /** "All variables being empty": nothing of an earlier run is left in them. */
    private static void variablesAreEmptyAgain() {
        TaintScanner x = new TaintScanner();
        for (int v = 0; v < 5; v++) {
            x.sink(v);
        }
        for (int v = 0; v < 5; v++) {
            x.set(v, 0x1 + v % 4);
        }
        for (int i = 0; i < 2; i++) {
            run(x, "before all lines", 10, 5, BEHIND_LAST);
            for (int v = 0; v < 5; v++) {
                CHECKS.same("20 variable " + v, x.passed(v), 0);
            }
        }
        run(x, "used up", 8, 5, USED_UP);
        x.clear();
        for (int v = 0; v < 5; v++) {
            x.sink(v);
        }
        run(x, "cleared", 5, 5, BEHIND_LAST);
        for (int v = 0; v < 5; v++) {
            CHECKS.same("20 variable " + v + ", cleared", x.passed(v), 0);
        }
    }

    /** Empty at first; six letters; empty again; those of the other inputs stay. */
    private static void inputsAtTheirBounds() {
        int[] words = {0x444444, 0x1, 0, 0x111111, 0};
        for (int input = 0; input < 3; input++) {
            TaintScanner x = new TaintScanner();
            for (int i = 0; i < 3; i++) {
                x.get(i, i);
                x.sink(i);
            }
            run(x, "empty inputs", 6, 3, BEHIND_LAST);
            for (int i = 0; i < 3; i++) {
                CHECKS.same("20 input " + i + " at first", x.passed(i), 0);
            }
            for (int word : words) {
                CHECKS.holds("17 input " + input, x.give(input, word));
                run(x, "input " + input, 6, 3, BEHIND_LAST);
                for (int i = 0; i < 3; i++) {
                    CHECKS.same("20 input " + i + " by " + input, x.passed(i), i == input ? 2 * word : 0);
                }
            }
        }
    }

    /** Makes a run that ends in one of three ways, with one word of sink 1; the word's letters tell the way. */
    private static void endsBy(TaintScanner x, int ending) {
        x.set(0, 0x1 + ending);
        x.when(0, HAS, 4);
        x.sink(0);
        x.end();
        x.sink(0);
        x.set(1, 0x111111);
        x.join(1, 1, 1);
        if (ending == OVERLONG) {
            x.join(1, 1, 1);
        }
        x.run(ending == USED_UP ? 4 : 100);
    }

    private static void stays(TaintScanner x, String what, int ending) {
        CHECKS.same("19 " + what, x.ended(), ending);
        CHECKS.same("20 " + what, x.passed(0), 1 + 2 * ending);
        CHECKS.same("21 " + what, x.place(0), 1);
        noWord(x, what, 1);
    }

    /** "What is told of the latest run stays": steps that are none, blocks that are open. */
    private static void latestRunBehindRefusedOnes() {
        for (int ending = 0; ending < 3; ending++) {
            TaintScanner x = new TaintScanner();
            endsBy(x, ending);
            stays(x, "a run that ended by " + ending, ending);
            for (int steps : new int[] {Integer.MIN_VALUE, -1, 0, 1001, Integer.MAX_VALUE}) {
                CHECKS.same("18 steps " + steps, x.run(steps), -1);
                stays(x, "behind steps " + steps, ending);
            }
            x.sink(1);
            for (int open = 1; open <= 3; open++) {
                x.loop(0, HAS, A);
                for (int steps : new int[] {0, 1, 1000, 1001}) {
                    CHECKS.same("18 open " + open + ", steps " + steps, x.run(steps), -1);
                    stays(x, "open " + open + ", behind steps " + steps, ending);
                }
            }
        }
    }

    private static void latestRunBehindOtherCalls() {
        for (int ending = 0; ending < 3; ending++) {
            TaintScanner x = new TaintScanner();
            endsBy(x, ending);
            x.give(0, 0x1);
            stays(x, "behind give", ending);
            x.analyse();
            stays(x, "behind analyse", ending);
            x.sink(2);
            x.set(0, 0x4);
            stays(x, "behind more lines", ending);
            x.attack(0x2);
            x.size(0);
            stays(x, "behind questions", ending);
        }
    }

    /** "Inputs stay; the latest run's passes too", with their places in the program as it was then, and how it ended. */
    private static void latestRunBehindClear() {
        for (int ending = 0; ending < 3; ending++) {
            TaintScanner x = new TaintScanner();
            x.give(2, 0x1234);
            endsBy(x, ending);
            x.clear();
            stays(x, "behind clear", ending);
            x.clear();
            stays(x, "behind clear again", ending);
            x.get(3, 2);
            x.sink(3);
            stays(x, "behind clear and new lines", ending);
            x.run(0);
            stays(x, "behind clear and a refused run", ending);
            run(x, "new lines", 2, 1, BEHIND_LAST);
            CHECKS.same("20 the input stayed", x.passed(0), 0x2468);
            CHECKS.same("21 the first sink now", x.place(0), 0);
            x.clear();
            run(x, "cleared", 1, 0, BEHIND_LAST);
            noWord(x, "cleared", 0);
        }
    }
}
