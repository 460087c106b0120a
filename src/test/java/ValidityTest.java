/**
 * "Adding a line, and clear(), make an analysis that there was invalid (nothing else does); all
 * questions about sinks answer NONE as long as there is none."
 */
public final class ValidityTest {
    private static final Checks CHECKS = new Checks();

    private interface Call {
        long on(TaintScanner x);
    }

    public static void main(String[] args) {
        noneBeforeTheFirst();
        linesMakeInvalid();
        blocksMakeInvalid();
        clearMakesInvalid();
        otherCallsDoNot();
        fullProgramStaysValid();
        analysisIsOfTheLinesOfThen();
        analyseOfAnOpenBlock();
        CHECKS.close("ValidityTest");
    }

    /** Seven lines: two sinks, of which the first is unsafe, and a loop. */
    private static TaintScanner withLines() {
        TaintScanner x = new TaintScanner();
        x.give(1, 0x31);
        x.get(0, 1);
        x.sink(0);
        x.set(1, 0x12);
        x.loop(0, 0, 3);
        x.get(0, 0);
        x.end();
        x.sink(1);
        return x;
    }

    private static void isValid(TaintScanner x, String what) {
        CHECKS.same("13 " + what, x.size(0), 2);
        CHECKS.same("13 second, " + what, x.size(1), 4);
        CHECKS.same("14 " + what, x.accepts(0, 0x2), 1);
        CHECKS.same("14 second, " + what, x.accepts(1, 0x2), 0);
        CHECKS.same("15 " + what, x.witness(0, 0), 2);
        CHECKS.same("15 behind its end, " + what, x.witness(0, 1), 0);
        CHECKS.same("16 " + what, x.rounds(3), 1);
    }

    private static void isInvalid(TaintScanner x, String what) {
        for (int k = -1; k <= 6; k++) {
            CHECKS.same("13 sink " + k + ", " + what, x.size(k), -1);
            CHECKS.same("14 sink " + k + ", " + what, x.accepts(k, 0), -1);
            CHECKS.same("14 sink " + k + ", 15 letters, " + what, x.accepts(k, 0x222222222222222L), -1);
            CHECKS.same("15 sink " + k + ", " + what, x.witness(k, 0), -1);
            CHECKS.same("15 sink " + k + ", behind its end, " + what, x.witness(k, 20), -1);
        }
        for (int i = -1; i <= 24; i++) {
            CHECKS.same("16 line " + i + ", " + what, x.rounds(i), -1);
        }
    }

    private static void noneBeforeTheFirst() {
        isInvalid(new TaintScanner(), "a new object");
        TaintScanner x = withLines();
        isInvalid(x, "not analysed");
        x.run(100);
        isInvalid(x, "run alone");
        x.analyse();
        isValid(x, "analysed");
    }

    private static void invalidates(String what, Call call, long answer) {
        TaintScanner x = withLines();
        x.analyse();
        isValid(x, "before " + what);
        CHECKS.same(what, call.on(x), answer);
        isInvalid(x, "behind " + what);
    }

    private static void linesMakeInvalid() {
        invalidates("2 set", x -> x.set(3, 0), 8);
        invalidates("3 get", x -> x.get(3, 0), 8);
        invalidates("4 join", x -> x.join(3, 3, 3), 8);
        invalidates("5 apply", x -> x.apply(3, 3, 0), 8);
        invalidates("6 sink", x -> x.sink(3), 8);
        invalidates("7 when", x -> x.when(3, 0, 1), 8);
        invalidates("9 loop", x -> x.loop(3, 0, 1), 8);
        invalidates("11 clear", x -> x.clear(), 7);
    }

    /** OTHER and END come when a block is open, so that there is no analysis before them; they do not bring it back. */
    private static void blocksMakeInvalid() {
        TaintScanner x = withLines();
        x.analyse();
        x.when(3, 0, 1);
        x.other();
        isInvalid(x, "behind other");
        x.end();
        isInvalid(x, "behind end");
        CHECKS.same("12 again", x.analyse(), 1);
        isValid(x, "analysed again");
    }

    private static void clearMakesInvalid() {
        TaintScanner x = withLines();
        x.analyse();
        x.clear();
        CHECKS.same("12 no lines", x.analyse(), 0);
        isInvalid(x, "no lines");
        x.clear();
        isInvalid(x, "no lines, cleared");
    }

    private static void keeps(String what, Call call, long answer) {
        TaintScanner x = withLines();
        x.analyse();
        CHECKS.same(what, call.on(x), answer);
        isValid(x, "behind " + what);
        CHECKS.same(what + " again", call.on(x), answer);
        isValid(x, "behind two of " + what);
    }

    /** "Nothing else does": inputs, runs, questions, an analysis more. */
    private static void otherCallsDoNot() {
        keeps("17 give", x -> x.give(1, 0x4) ? 1 : 0, 1);
        keeps("17 give the same", x -> x.give(1, 0x31) ? 1 : 0, 1);
        keeps("17 give refused", x -> x.give(3, 0x4) ? 1 : 0, 0);
        keeps("18 run", x -> x.run(100), 2);
        keeps("18 run that is used up", x -> x.run(1), 0);
        keeps("18 run refused", x -> x.run(0), -1);
        keeps("12 analyse", x -> x.analyse(), 1);
        keeps("13 size", x -> x.size(1), 4);
        keeps("13 size of none", x -> x.size(2), -1);
        keeps("14 accepts", x -> x.accepts(1, 0x13), 1);
        keeps("14 accepts no word", x -> x.accepts(1, 9), -1);
        keeps("15 witness", x -> x.witness(0, 0), 2);
        keeps("15 witness of a safe one", x -> x.witness(1, 0), -1);
        keeps("16 rounds", x -> x.rounds(3), 1);
        keeps("16 rounds of none", x -> x.rounds(2), -1);
        keeps("19 ended", x -> x.ended(), -1);
        keeps("20 passed", x -> x.passed(0), -1);
        keeps("21 place", x -> x.place(0), -1);
        keeps("22 attack", x -> x.attack(0x2), 1);
        keeps("22 attack of no word", x -> x.attack(9), -1);
        keeps("2 set refused", x -> x.set(0, 5), -1);
        keeps("3 get refused", x -> x.get(5, 0), -1);
        keeps("4 join refused", x -> x.join(0, 0, 5), -1);
        keeps("5 apply refused", x -> x.apply(0, 0, 3), -1);
        keeps("6 sink refused", x -> x.sink(5), -1);
        keeps("7 when refused", x -> x.when(0, 0, 0), -1);
        keeps("8 other refused", x -> x.other(), -1);
        keeps("9 loop refused", x -> x.loop(0, 3, 1), -1);
        keeps("10 end refused", x -> x.end(), -1);
    }

    /** With 24 lines no call adds one, so none makes the analysis invalid. */
    private static void fullProgramStaysValid() {
        TaintScanner x = withLines();
        for (int i = 7; i < 24; i++) {
            x.set(2, 0x1);
        }
        CHECKS.same("12 full", x.analyse(), 1);
        int[] refused = {x.set(0, 0), x.get(0, 0), x.join(0, 0, 0), x.apply(0, 0, 0), x.sink(0), x.when(0, 0, 1), x.other(),
            x.loop(0, 0, 1), x.end()};
        for (int answer : refused) {
            CHECKS.same("a line more", answer, -1);
        }
        isValid(x, "full");
    }

    /** As many lines as before, but others: nothing is told of those that there were. */
    private static void analysisIsOfTheLinesOfThen() {
        TaintScanner x = withLines();
        x.analyse();
        x.clear();
        x.set(0, 0x3);
        x.sink(0);
        x.sink(1);
        for (int i = 3; i < 7; i++) {
            x.set(2, 0);
        }
        isInvalid(x, "other lines, not analysed");
        CHECKS.same("12 other lines", x.analyse(), 1);
        CHECKS.same("13 other lines", x.size(0), 3);
        CHECKS.same("13 other lines, second", x.size(1), 2);
        CHECKS.same("15 other lines", x.witness(0, 0), 5);
        CHECKS.same("15 other lines, second", x.witness(1, 0), -1);
        CHECKS.same("16 other lines", x.rounds(3), -1);
    }

    private static void analyseOfAnOpenBlock() {
        for (int open = 1; open <= 3; open++) {
            TaintScanner x = withLines();
            x.analyse();
            for (int i = 0; i < open; i++) {
                x.when(2, 0, 1);
            }
            for (int i = 0; i < open; i++) {
                CHECKS.same("12 open " + (open - i), x.analyse(), -1);
                isInvalid(x, "open " + (open - i));
                x.end();
            }
            CHECKS.same("12 all closed", x.analyse(), 1);
            isValid(x, "all closed");
        }
    }
}
