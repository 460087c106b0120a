/** Promises 2 to 11 at their bounds: 24 lines, five variables, three inputs, six sinks, blocks three deep. */
public final class LineBoundsTest {
    private static final Checks CHECKS = new Checks();
    private static final String[] KINDS = {"SET", "GET", "JOIN", "APPLY", "SINK", "WHEN", "OTHER", "LOOP", "END of WHEN", "END of LOOP"};

    public static void main(String[] args) {
        for (int kind = 0; kind < KINDS.length; kind++) {
            kindAtTheLastLines(kind);
        }
        fullProgramIsAnalysedAndRun();
        sixSinks();
        sixthSinkOnLine24();
        variablesAreEmptyAtFirst();
        variablesInEveryRole();
        joinOfAllVariables();
        inputsAreThree();
        conditionsOfAllVariables();
        threeDeep();
        depthIsCountedAnew();
        otherBelongsToTheInnermost();
        clearAtItsBounds();
        CHECKS.close("LineBoundsTest");
    }

    private static int add(TaintScanner x, int kind) {
        return switch (kind) {
            case 0 -> x.set(0, 0x1);
            case 1 -> x.get(0, 0);
            case 2 -> x.join(0, 0, 0);
            case 3 -> x.apply(0, 0, 0);
            case 4 -> x.sink(0);
            case 5 -> x.when(0, 0, 1);
            case 6 -> x.other();
            case 7 -> x.loop(0, 0, 1);
            default -> x.end();
        };
    }

    private static void fill(TaintScanner x, int lines) {
        for (int i = 0; i < lines; i++) {
            x.set(1, 0x1);
        }
    }

    /** "NONE when there are 24": with 22 and 23 lines there a line is added, with 24 it is not. */
    private static void kindAtTheLastLines(int kind) {
        for (int lines = 22; lines <= 24; lines++) {
            TaintScanner x = new TaintScanner();
            boolean needsWhen = kind == 6 || kind == 8;
            boolean needsLoop = kind == 9;
            fill(x, needsWhen || needsLoop ? lines - 1 : lines);
            if (needsWhen) {
                x.when(0, 0, 1);
            } else if (needsLoop) {
                x.loop(0, 0, 1);
            }
            String what = KINDS[kind] + " with " + lines + " lines there";
            CHECKS.same(what, add(x, kind), lines < 24 ? lines + 1 : -1);
            CHECKS.same(what + ", all of them", x.clear(), lines < 24 ? lines + 1 : 24);
        }
    }

    /** LOOP and END are lines 22 and 23 from 0, as late as they can be. */
    private static void fullProgramIsAnalysedAndRun() {
        TaintScanner x = new TaintScanner();
        fill(x, 21);
        CHECKS.same("6 line 22", x.sink(1), 22);
        CHECKS.same("9 line 23", x.loop(1, 0, 2), 23);
        CHECKS.same("10 line 24", x.end(), 24);
        CHECKS.same("12 24 lines", x.analyse(), 0);
        CHECKS.same("13 24 lines", x.size(0), 3);
        CHECKS.same("16 line 21", x.rounds(21), -1);
        CHECKS.same("16 line 22", x.rounds(22), 1);
        CHECKS.same("16 line 23", x.rounds(23), -1);
        CHECKS.same("16 line 24", x.rounds(24), -1);
        CHECKS.same("18 24 lines", x.run(22), 1);
        CHECKS.same("19 before the LOOP", x.ended(), 1);
        CHECKS.same("18 24 lines", x.run(23), 1);
        CHECKS.same("19 behind its END", x.ended(), 0);
    }

    private static void sixSinks() {
        TaintScanner x = new TaintScanner();
        for (int k = 0; k < 6; k++) {
            CHECKS.same("6 SET for sink " + k, x.set(k % 5, constant(k)), 2 * k + 1);
            CHECKS.same("6 sink " + k, x.sink(k % 5), 2 * k + 2);
        }
        for (int v = 0; v < 5; v++) {
            CHECKS.same("6 a seventh, of variable " + v, x.sink(v), -1);
        }
        CHECKS.same("12 six", x.analyse(), 0);
        CHECKS.same("18 six", x.run(12), 6);
        for (int k = 0; k < 6; k++) {
            CHECKS.same("13 sink " + k, x.size(k), k + 3);
            CHECKS.same("14 sink " + k, x.accepts(k, constant(k)), 1);
            CHECKS.same("15 safe sink " + k, x.witness(k, 0), -1);
            CHECKS.same("20 sink " + k, x.passed(k), constant(k));
            CHECKS.same("21 sink " + k, x.place(k), k);
        }
        for (int k : new int[] {Integer.MIN_VALUE, -1, 6, Integer.MAX_VALUE}) {
            CHECKS.same("13 no sink " + k, x.size(k), -1);
            CHECKS.same("14 no sink " + k, x.accepts(k, 0), -1);
            CHECKS.same("15 no sink " + k, x.witness(k, 0), -1);
        }
        fewerSinksBehindClear(x);
    }

    /** What six sinks had is not told of a program with fewer. */
    private static void fewerSinksBehindClear(TaintScanner x) {
        x.clear();
        x.analyse();
        CHECKS.same("13 no sink 0", x.size(0), -1);
        for (int sinks = 1; sinks <= 6; sinks++) {
            CHECKS.same("6 sinks anew", x.sink(0), sinks);
            x.analyse();
            for (int k = 0; k < 7; k++) {
                CHECKS.same("13 of " + sinks + ", sink " + k, x.size(k), k < sinks ? 2 : -1);
                CHECKS.same("14 of " + sinks + ", sink " + k, x.accepts(k, 0), k < sinks ? 1 : -1);
            }
        }
    }

    /** k + 1 letters a, which are the same as a constant and as a word. */
    private static int constant(int k) {
        return 0x111111 >> 4 * (5 - k);
    }

    private static void sixthSinkOnLine24() {
        TaintScanner x = new TaintScanner();
        fill(x, 18);
        for (int k = 0; k < 6; k++) {
            CHECKS.same("6 sink " + k, x.sink(1), 19 + k);
        }
        CHECKS.same("6 neither a line nor a sink is left", x.sink(1), -1);
        CHECKS.same("12 both are full", x.analyse(), 0);
        CHECKS.same("13 the sixth", x.size(5), 3);
    }

    /** "Whose values are words, empty at first", in a run and in the analysis, and whatever there was before. */
    private static void variablesAreEmptyAtFirst() {
        TaintScanner x = new TaintScanner();
        for (int time = 0; time < 3; time++) {
            for (int v = 0; v < 5; v++) {
                x.sink(v);
            }
            for (int v = 0; v < 5; v++) {
                x.get(v, 0);
            }
            x.give(0, 0x3);
            CHECKS.same("12 empty at first", x.analyse(), 0);
            CHECKS.same("18 empty at first", x.run(10), 5);
            for (int v = 0; v < 5; v++) {
                CHECKS.same("13 variable " + v, x.size(v), 2);
                CHECKS.same("14 variable " + v + " is empty", x.accepts(v, 0), 1);
                CHECKS.same("14 variable " + v + " is nothing else", x.accepts(v, 0x6), 0);
                CHECKS.same("20 variable " + v, x.passed(v), 0);
            }
            x.clear();
        }
    }

    /** The variables 0 to 4 do, for all that variables are for, and each is its own. */
    private static void variablesInEveryRole() {
        for (int v = 0; v < 5; v++) {
            TaintScanner x = new TaintScanner();
            int w = (v + 1) % 5;
            x.give(2, 0x3);
            String what = " variable " + v;
            CHECKS.same("2" + what, x.set(v, 0x13), 1);
            CHECKS.same("6" + what, x.sink(v), 2);
            CHECKS.same("5 into" + what, x.apply(v, v, 1), 3);
            CHECKS.same("5 of" + what, x.apply(w, v, 2), 4);
            CHECKS.same("6 again," + what, x.sink(v), 5);
            CHECKS.same("3" + what, x.get(v, 2), 6);
            CHECKS.same("4" + what, x.join(v, w, v), 7);
            x.sink(v);
            x.sink(w);
            x.sink((v + 2) % 5);
            x.sink((v + 3) % 5);
            long[] words = {0x15, 0x1, 0x36, 0x3, 0, 0};
            CHECKS.same("18" + what, x.run(100), 6);
            x.analyse();
            for (int j = 0; j < 6; j++) {
                CHECKS.same("20" + what + ", word " + j, x.passed(j), words[j]);
                CHECKS.same("14" + what + ", word " + j, x.accepts(j, words[j]), 1);
            }
        }
    }

    private static void joinOfAllVariables() {
        int[] constants = {0x1, 0x2, 0x3, 0x4, 0x11};
        long[] words = {0x1, 0x3, 0x5, 0x7, 0x11};
        for (int i = 0; i < 125; i++) {
            int v = i / 25;
            int a = i / 5 % 5;
            int b = i % 5;
            TaintScanner x = new TaintScanner();
            for (int w = 0; w < 5; w++) {
                x.set(w, constants[w]);
            }
            CHECKS.same("4 " + v + " " + a + " " + b, x.join(v, a, b), 6);
            for (int w = 0; w < 5; w++) {
                x.sink(w);
            }
            x.run(11);
            x.analyse();
            for (int w = 0; w < 5; w++) {
                long due = w == v ? words[a] << (b == 4 ? 8 : 4) | words[b] : words[w];
                CHECKS.same("4 word " + w + " behind " + v + " " + a + " " + b, x.passed(w), due);
                CHECKS.same("4 language " + w + " behind " + v + " " + a + " " + b, x.accepts(w, due), 1);
            }
        }
    }

    private static void inputsAreThree() {
        for (int input = -1; input <= 3; input++) {
            boolean right = input >= 0 && input <= 2;
            TaintScanner x = new TaintScanner();
            x.give(0, 0x1);
            x.give(1, 0x2);
            x.give(2, 0x3);
            CHECKS.same("17 input " + input, x.give(input, 0x4) ? 1 : 0, right ? 1 : 0);
            CHECKS.same("3 input " + input, x.get(3, input), right ? 1 : -1);
            x.clear();
            for (int i = 0; i < 3; i++) {
                x.get(i, i);
                x.sink(i);
            }
            x.run(6);
            for (int i = 0; i < 3; i++) {
                CHECKS.same("17 input " + i + " behind " + input, x.passed(i), i == input ? 8 : 2 * i + 2);
            }
        }
    }

    /** Conditions 0 to 2 of symbols 1 to 4, for each variable; one below and one above are refused. */
    private static void conditionsOfAllVariables() {
        for (int v = -1; v <= 5; v++) {
            for (int condition = -1; condition <= 3; condition++) {
                for (int symbol = 0; symbol <= 5; symbol++) {
                    boolean right = v >= 0 && v <= 4 && condition >= 0 && condition <= 2 && symbol >= 1 && symbol <= 4;
                    opens(v, condition, symbol, right);
                }
            }
        }
    }

    private static void opens(int v, int condition, int symbol, boolean right) {
        String what = " variable " + v + ", condition " + condition + ", symbol " + symbol;
        TaintScanner x = new TaintScanner();
        CHECKS.same("7" + what, x.when(v, condition, symbol), right ? 1 : -1);
        CHECKS.same("8" + what, x.other(), right ? 2 : -1);
        CHECKS.same("10" + what, x.end(), right ? 3 : -1);
        CHECKS.same("9" + what, x.loop(v, condition, symbol), right ? 4 : -1);
        CHECKS.same("8 in a LOOP," + what, x.other(), -1);
        CHECKS.same("10 of a LOOP," + what, x.end(), right ? 5 : -1);
        x.clear();
        if (right) {
            x.set(v, symbol);
            x.when(v, condition, symbol);
            x.sink(v);
            x.end();
            x.when(v, condition, symbol % 4 + 1);
            x.sink(v);
            x.end();
            x.when((v + 1) % 5, condition, symbol);
            x.sink(v);
            x.end();
            CHECKS.same("18" + what, x.run(100), 1);
            CHECKS.same("21" + what, x.place(0), 0);
            x.analyse();
            CHECKS.same("13 it holds," + what, x.size(0), 3);
            CHECKS.same("13 for no other symbol," + what, x.size(1), 1);
            CHECKS.same("13 for no other variable," + what, x.size(2), 1);
        }
    }

    private static int open(TaintScanner x, boolean isLoop, int v) {
        return isLoop ? x.loop(v, 0, 1) : x.when(v, 0, 1);
    }

    /** "Blocks lie within one another, at most three deep": all kinds of three, refused the fourth, analysed and run. */
    private static void threeDeep() {
        for (int kinds = 0; kinds < 8; kinds++) {
            TaintScanner x = new TaintScanner();
            int loops = Integer.bitCount(kinds);
            String what = " kinds " + kinds;
            for (int v = 0; v < 3; v++) {
                x.set(v, 0x1);
            }
            for (int v = 0; v < 3; v++) {
                CHECKS.same("7, 9 block " + v + what, open(x, (kinds >> v & 1) == 1, v), 4 + v);
            }
            CHECKS.same("7 a fourth block" + what, x.when(0, 0, 1), -1);
            CHECKS.same("9 a fourth block" + what, x.loop(0, 0, 1), -1);
            x.set(3, 0x2);
            for (int v = 0; v < 3; v++) {
                x.set(v, 0);
            }
            for (int v = 0; v < 3; v++) {
                CHECKS.same("10 end " + v + what, x.end(), 11 + v);
            }
            CHECKS.same("10 none is open" + what, x.end(), -1);
            x.sink(3);
            CHECKS.same("18 a step less" + what, x.run(13 + loops), 0);
            CHECKS.same("18 each LOOP is come to twice" + what, x.run(14 + loops), 1);
            CHECKS.same("20" + what, x.passed(0), 0x3);
            CHECKS.same("12" + what, x.analyse(), 0);
            CHECKS.same("14 b" + what, x.accepts(0, 0x3), 1);
            CHECKS.same("14 the empty word, by loops" + what, x.accepts(0, 0), loops > 0 ? 1 : 0);
        }
    }

    private static void depthIsCountedAnew() {
        TaintScanner x = new TaintScanner();
        int lines = 0;
        for (int i = 0; i < 3; i++) {
            CHECKS.same("7 opens " + i, x.when(0, 0, 1), ++lines);
        }
        for (int i = 0; i < 4; i++) {
            CHECKS.same("10 the third ends " + i, x.end(), ++lines);
            CHECKS.same("9 two are open, a third " + i, x.loop(0, 0, 1), ++lines);
            CHECKS.same("9 a fourth " + i, x.loop(0, 0, 1), -1);
            CHECKS.same("7 a fourth " + i, x.when(0, 0, 1), -1);
        }
        for (int i = 0; i < 3; i++) {
            CHECKS.same("12 " + (3 - i) + " open", x.analyse(), -1);
            CHECKS.same("18 " + (3 - i) + " open", x.run(1), -1);
            CHECKS.same("10 ends " + i, x.end(), ++lines);
        }
        CHECKS.same("10 none is open", x.end(), -1);
        CHECKS.same("12 none is open", x.analyse(), 0);
        CHECKS.same("18 none is open", x.run(1), 0);
        for (int i = 0; i < 3; i++) {
            CHECKS.same("7 opens again " + i, x.when(0, 0, 1), ++lines);
        }
        CHECKS.same("7 a fourth again", x.when(0, 0, 1), -1);
    }

    /** An OTHER counts for its own WHEN alone, and as no block more. */
    private static void otherBelongsToTheInnermost() {
        TaintScanner x = new TaintScanner();
        x.when(0, 0, 1);
        x.other();
        x.when(0, 0, 1);
        x.other();
        CHECKS.same("7 a third behind two OTHERs", x.when(0, 0, 1), 5);
        CHECKS.same("8 its OTHER", x.other(), 6);
        CHECKS.same("8 not twice", x.other(), -1);
        CHECKS.same("7 a fourth behind OTHER", x.when(0, 0, 1), -1);
        x.end();
        CHECKS.same("8 the second has one", x.other(), -1);
        x.end();
        CHECKS.same("8 the first has one", x.other(), -1);
        CHECKS.same("7 one within the first", x.when(0, 0, 1), 9);
        x.end();
        CHECKS.same("8 the first has one still", x.other(), -1);
        x.end();
        CHECKS.same("8 none is open", x.other(), -1);
        CHECKS.same("10 none is open", x.end(), -1);
        CHECKS.same("11 lines", x.clear(), 11);
        x.when(0, 0, 1);
        CHECKS.same("8 behind clear an OTHER again", x.other(), 2);
    }

    private static void clearAtItsBounds() {
        for (int lines = 0; lines <= 24; lines++) {
            TaintScanner x = new TaintScanner();
            fill(x, lines);
            CHECKS.same("11 lines", x.clear(), lines);
            CHECKS.same("11 none", x.clear(), 0);
            CHECKS.same("11 the first again", x.set(0, 0x1), 1);
        }
    }
}
