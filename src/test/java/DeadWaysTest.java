/** "Terms", for promises 12 to 16: the empty word, the empty language, dead ways, and loops on them. */
public final class DeadWaysTest {
    private static final Checks CHECKS = new Checks();
    private static final int HAS = 0;
    private static final int A = 1;
    private static final int B = 2;

    public static void main(String[] args) {
        noConditionOfTheEmptyWord();
        conditionsPartTheEmptyWord();
        linesOnDeadWays();
        allVariablesAreEmpty();
        deadOther();
        deadWithoutOther();
        blocksOnDeadWays();
        loopsOnDeadWays();
        loopNeverGoneThrough();
        loopWithoutEnd();
        loopWithoutEndInWhen();
        bothWaysDead();
        sinkThatIsDeadAtFirst();
        conditionsWithTaint();
        CHECKS.close("DeadWaysTest");
    }

    /** A sink on a dead way: the empty language, of size 1, which has no word and so no attack. */
    private static void deadSink(TaintScanner x, String what, int k) {
        CHECKS.same("13 dead: " + what, x.size(k), 1);
        for (long word : new long[] {0, 1, 2, 3, 5, 0x888888888888888L}) {
            CHECKS.same("14 dead: " + what + ", word " + word, x.accepts(k, word), 0);
        }
        CHECKS.same("15 dead: " + what, x.witness(k, 0), -1);
    }

    /** "The empty word none of these": its way is dead, its contrary is not; nor is a run's. */
    private static void noConditionOfTheEmptyWord() {
        for (int condition = 0; condition < 3; condition++) {
            for (int symbol = 1; symbol <= 4; symbol++) {
                TaintScanner x = new TaintScanner();
                x.when(0, condition, symbol);
                x.sink(0);
                x.other();
                x.sink(0);
                x.end();
                x.loop(0, condition, symbol);
                x.sink(0);
                x.end();
                x.sink(0);
                String what = "condition " + condition + " of symbol " + symbol;
                CHECKS.same("12 " + what, x.analyse(), 0);
                deadSink(x, what, 0);
                CHECKS.same("13 not " + what, x.size(1), 2);
                CHECKS.same("14 not " + what, x.accepts(1, 0), 1);
                deadSink(x, what + ", LOOP", 2);
                CHECKS.same("16 " + what, x.rounds(5), 1);
                CHECKS.same("13 behind LOOP, " + what, x.size(3), 2);
                CHECKS.same("14 behind LOOP, " + what, x.accepts(3, 0), 1);
                CHECKS.same("18 " + what, x.run(100), 2);
                CHECKS.same("21 " + what, x.place(0), 1);
                CHECKS.same("21 behind LOOP, " + what, x.place(1), 3);
            }
        }
    }

    /** The empty word or one letter: the condition keeps the letter, its contrary the empty word. */
    private static void conditionsPartTheEmptyWord() {
        for (int condition = 0; condition < 3; condition++) {
            TaintScanner x = new TaintScanner();
            x.get(4, 0);
            x.when(4, HAS, A);
            x.set(0, 0x3);
            x.end();
            x.when(0, condition, 3);
            x.sink(0);
            x.other();
            x.sink(0);
            x.end();
            x.sink(0);
            CHECKS.same("12 a quote or nothing", x.analyse(), 2);
            CHECKS.same("13 the quote", x.size(0), 3);
            CHECKS.same("14 the quote", x.accepts(0, 0x5), 1);
            CHECKS.same("14 not the empty word", x.accepts(0, 0), 0);
            CHECKS.same("13 the empty word", x.size(1), 2);
            CHECKS.same("14 the empty word", x.accepts(1, 0), 1);
            CHECKS.same("14 not the quote", x.accepts(1, 0x5), 0);
            CHECKS.same("13 both", x.size(2), 3);
            CHECKS.same("14 both, empty", x.accepts(2, 0), 1);
            CHECKS.same("14 both, quote", x.accepts(2, 0x5), 1);
        }
    }

    private static void addLine(TaintScanner x, int kind, int v) {
        switch (kind) {
            case 0 -> x.set(v, 0x3);
            case 1 -> x.set(v, 0);
            case 2 -> x.get(v, 0);
            case 3 -> x.join(v, v, v);
            case 4 -> x.join(v, 4, 3);
            default -> x.apply(v, 3, kind - 5);
        }
    }

    /** "Lines on a dead way leave that so": each kind of line, each variable. */
    private static void linesOnDeadWays() {
        for (int kind = 0; kind < 8; kind++) {
            for (int v = 0; v < 5; v++) {
                TaintScanner x = new TaintScanner();
                x.get(3, 0);
                x.when(0, HAS, A);
                addLine(x, kind, v);
                x.sink(v);
                x.sink((v + 1) % 5);
                addLine(x, kind, (v + 1) % 5);
                x.sink((v + 1) % 5);
                x.end();
                x.sink(v);
                CHECKS.same("12 kind " + kind, x.analyse(), v == 3 ? 1 : 0);
                for (int k = 0; k < 3; k++) {
                    deadSink(x, "kind " + kind + " variable " + v, k);
                }
                CHECKS.same("13 behind END", x.size(3), 2);
                CHECKS.same("14 behind END, the empty word", x.accepts(3, 0), 1);
                CHECKS.same("14 behind END, a", x.accepts(3, 0x2), v == 3 ? 1 : 0);
                CHECKS.same("14 behind END, a quote", x.accepts(3, 0x5), 0);
            }
        }
    }

    /** "All variables have the empty language", not the one of the condition alone. */
    private static void allVariablesAreEmpty() {
        for (int tested = 0; tested < 5; tested++) {
            TaintScanner x = new TaintScanner();
            for (int v = 0; v < 5; v++) {
                x.set(v, 0x2);
            }
            x.when(tested, HAS, A);
            for (int v = 0; v < 5; v++) {
                x.sink(v);
            }
            x.end();
            x.sink(tested);
            x.analyse();
            for (int v = 0; v < 5; v++) {
                deadSink(x, "variable " + v + " by " + tested, v);
            }
            CHECKS.same("13 behind END", x.size(5), 3);
            CHECKS.same("14 behind END", x.accepts(5, 0x3), 1);
        }
    }

    private static void deadOther() {
        TaintScanner x = new TaintScanner();
        x.set(0, 0x1);
        x.when(0, HAS, A);
        x.set(1, 0x2);
        x.other();
        x.sink(0);
        x.set(1, 0x4);
        x.get(2, 0);
        x.sink(1);
        x.end();
        x.sink(1);
        x.sink(2);
        x.sink(0);
        CHECKS.same("12 the second way is dead", x.analyse(), 0);
        deadSink(x, "OTHER's, of the condition", 0);
        deadSink(x, "OTHER's, of another", 1);
        CHECKS.same("13 the first way alone", x.size(2), 3);
        CHECKS.same("14 the first way alone, b", x.accepts(2, 0x3), 1);
        CHECKS.same("14 the first way alone, no escape", x.accepts(2, 0x7), 0);
        CHECKS.same("14 the first way alone, not as before", x.accepts(2, 0), 0);
        CHECKS.same("14 no input", x.accepts(3, 0x2), 0);
        CHECKS.same("14 a as before", x.accepts(4, 0x1), 1);
    }

    private static void deadWithoutOther() {
        TaintScanner x = new TaintScanner();
        x.set(0, 0x1);
        x.when(0, HAS, A);
        x.set(1, 0x2);
        x.end();
        x.sink(1);
        CHECKS.same("12 no second way", x.analyse(), 0);
        CHECKS.same("14 b", x.accepts(0, 0x3), 1);
        CHECKS.same("14 not as before", x.accepts(0, 0), 0);
    }

    /** Blocks within a dead way are dead as well, on both ways, and behind their END. */
    private static void blocksOnDeadWays() {
        TaintScanner x = new TaintScanner();
        x.set(0, 0x1);
        x.when(0, HAS, B);
        x.when(1, HAS, A);
        x.sink(0);
        x.other();
        x.sink(0);
        x.set(1, 0x1);
        x.end();
        x.sink(0);
        x.set(1, 0x1);
        x.when(1, HAS, A);
        x.sink(1);
        x.end();
        x.sink(1);
        x.end();
        x.sink(1);
        CHECKS.same("12 blocks on a dead way", x.analyse(), 0);
        for (int k = 0; k < 5; k++) {
            deadSink(x, "in a block, sink " + k, k);
        }
        CHECKS.same("13 behind all", x.size(5), 2);
        CHECKS.same("14 behind all", x.accepts(5, 0), 1);
    }

    /** "A LOOP there has one round", and so has one within it, though its lines would change much. */
    private static void loopsOnDeadWays() {
        TaintScanner x = new TaintScanner();
        x.get(4, 0);
        x.set(3, 0x2);
        x.when(0, HAS, A);
        x.loop(4, HAS, A);
        x.join(0, 0, 3);
        x.loop(4, HAS, B);
        x.join(1, 1, 3);
        x.sink(1);
        x.end();
        x.sink(0);
        x.end();
        x.sink(4);
        x.end();
        x.sink(0);
        CHECKS.same("12 loops on a dead way", x.analyse(), 0);
        CHECKS.same("16 the outer one", x.rounds(3), 1);
        CHECKS.same("16 the inner one", x.rounds(5), 1);
        for (int k = 0; k < 3; k++) {
            deadSink(x, "in loops, sink " + k, k);
        }
        CHECKS.same("14 behind", x.accepts(3, 0), 1);
        CHECKS.same("13 behind", x.size(3), 2);
    }

    /** No word has what the LOOP asks for: its lines are on a dead way, behind it there is none. */
    private static void loopNeverGoneThrough() {
        TaintScanner x = new TaintScanner();
        x.set(0, 0x2);
        x.loop(0, HAS, A);
        x.set(0, 0x1);
        x.loop(0, HAS, A);
        x.join(0, 0, 0);
        x.sink(0);
        x.end();
        x.sink(0);
        x.end();
        x.sink(0);
        CHECKS.same("12 never gone through", x.analyse(), 0);
        CHECKS.same("16 the outer one", x.rounds(1), 1);
        CHECKS.same("16 the inner one", x.rounds(3), 1);
        deadSink(x, "in the inner one", 0);
        deadSink(x, "in the outer one", 1);
        CHECKS.same("13 behind it", x.size(2), 3);
        CHECKS.same("14 behind it", x.accepts(2, 0x3), 1);
    }

    /** The contrary keeps nothing: all that comes behind is dead, to the last line. */
    private static void loopWithoutEnd() {
        TaintScanner x = new TaintScanner();
        x.set(0, 0x1);
        x.set(1, 0x2);
        x.loop(0, HAS, A);
        x.set(0, 0x12);
        x.sink(0);
        x.end();
        x.sink(0);
        x.sink(1);
        x.set(2, 0x3);
        x.sink(2);
        x.loop(2, HAS, 3);
        x.set(2, 0);
        x.end();
        x.when(2, HAS, 3);
        x.other();
        x.sink(2);
        x.end();
        x.sink(2);
        CHECKS.same("12 a loop without end", x.analyse(), 0);
        CHECKS.same("16 a loop without end", x.rounds(2), 2);
        CHECKS.same("16 behind it", x.rounds(10), 1);
        CHECKS.same("14 in it", x.accepts(0, 0x13), 1);
        for (int k = 1; k < 6; k++) {
            deadSink(x, "behind it, sink " + k, k);
        }
    }

    /** "Behind END, by the union, it may not be dead any more". */
    private static void loopWithoutEndInWhen() {
        for (int way = 0; way < 2; way++) {
            TaintScanner x = new TaintScanner();
            x.set(0, 0x1);
            x.get(4, 0);
            x.when(4, HAS, B);
            if (way == 1) {
                x.set(1, 0x2);
                x.other();
            }
            x.loop(0, HAS, A);
            x.end();
            x.sink(0);
            if (way == 0) {
                x.other();
                x.set(1, 0x2);
            }
            x.end();
            x.sink(1);
            x.sink(4);
            CHECKS.same("12 way " + way, x.analyse(), 1);
            deadSink(x, "way " + way, 0);
            CHECKS.same("13 the other way than " + way, x.size(1), 3);
            CHECKS.same("14 the other way than " + way, x.accepts(1, 0x3), 1);
            CHECKS.same("14 way " + way + " adds nothing", x.accepts(1, 0), 0);
            CHECKS.same("14 what the condition keeps, b", x.accepts(2, 0x4), way == 1 ? 1 : 0);
            CHECKS.same("14 what the condition keeps, a", x.accepts(2, 0x2), way == 1 ? 0 : 1);
        }
    }

    private static void bothWaysDead() {
        TaintScanner x = new TaintScanner();
        x.set(0, 0x1);
        x.get(4, 0);
        x.when(4, HAS, B);
        x.loop(0, HAS, A);
        x.end();
        x.sink(0);
        x.other();
        x.loop(0, 2, A);
        x.end();
        x.sink(4);
        x.end();
        x.sink(4);
        x.set(4, 0x3);
        x.sink(4);
        x.loop(4, HAS, 3);
        x.end();
        CHECKS.same("12 both ways are dead", x.analyse(), 0);
        for (int k = 0; k < 4; k++) {
            deadSink(x, "both ways, sink " + k, k);
        }
        CHECKS.same("16 behind both", x.rounds(14), 1);
    }

    /** "The last time that the analysis came there": dead in the first round, not in the second. */
    private static void sinkThatIsDeadAtFirst() {
        TaintScanner x = new TaintScanner();
        x.get(4, 0);
        x.loop(4, HAS, A);
        x.when(0, HAS, B);
        x.sink(0);
        x.loop(0, HAS, B);
        x.set(0, 0);
        x.end();
        x.sink(0);
        x.end();
        x.set(0, 0x2);
        x.end();
        CHECKS.same("12 dead at first", x.analyse(), 0);
        CHECKS.same("16 the outer one", x.rounds(1), 2);
        CHECKS.same("16 the inner one, not dead at last", x.rounds(4), 2);
        CHECKS.same("13 b", x.size(0), 3);
        CHECKS.same("14 b", x.accepts(0, 0x3), 1);
        CHECKS.same("13 the empty word", x.size(1), 2);
        CHECKS.same("14 the empty word", x.accepts(1, 0), 1);
    }

    /** "Tainted or not": a tainted letter keeps a way from being dead as well as another one. */
    private static void conditionsWithTaint() {
        for (int condition = 0; condition < 3; condition++) {
            for (int symbol = 1; symbol <= 4; symbol++) {
                TaintScanner x = new TaintScanner();
                x.give(0, symbol);
                x.get(0, 0);
                x.set(1, symbol);
                x.when(0, condition, symbol);
                x.sink(0);
                x.end();
                x.when(1, condition, symbol);
                x.sink(1);
                x.other();
                x.sink(1);
                x.end();
                x.analyse();
                String what = "condition " + condition + " of symbol " + symbol;
                CHECKS.same("14 tainted, " + what, x.accepts(0, 2 * symbol), 1);
                CHECKS.same("14 tainted, not the empty word, " + what, x.accepts(0, 0), 0);
                CHECKS.same("14 not tainted, " + what, x.accepts(1, 2 * symbol - 1), 1);
                deadSink(x, "the contrary of " + what, 2);
                CHECKS.same("18 " + what, x.run(100), 2);
                CHECKS.same("20 tainted, " + what, x.passed(0), 2 * symbol);
                CHECKS.same("20 not tainted, " + what, x.passed(1), 2 * symbol - 1);
            }
        }
    }
}
