/** "Terms", for promises 12 to 16: the rounds of loops, what is widened from the third on, and what rounds tells. */
public final class RoundsTest {
    private static final Checks CHECKS = new Checks();
    private static final int HAS = 0;
    private static final int STRIP = 1;
    private static final int A = 1;
    private static final int B = 2;

    public static void main(String[] args) {
        noLines();
        for (int rounds = 1; rounds <= 5; rounds++) {
            handedOn(rounds);
        }
        growing();
        widenedInTheFourth();
        widenedToAllLetters();
        lettersThatComeLate();
        theConditionsVariable();
        contraryGoesOn();
        sinksOfTheLastRound();
        sinkThatHadMoreBefore();
        sinkThatIsDeadAtLast();
        innerLoops();
        threeLoops();
        roundsOfTheLatestAnalysis();
        linesThatAreNoLoops();
        CHECKS.close("RoundsTest");
    }

    /** "The loop is DONE if U is H": with no line it is so at once, whatever the condition keeps. */
    private static void noLines() {
        TaintScanner x = new TaintScanner();
        x.get(0, 0);
        x.loop(0, HAS, A);
        x.end();
        x.loop(1, HAS, A);
        x.end();
        x.sink(0);
        CHECKS.same("12 no lines", x.analyse(), 1);
        CHECKS.same("16 kept", x.rounds(1), 1);
        CHECKS.same("16 none kept", x.rounds(3), 1);
        CHECKS.same("14 no a goes on", x.accepts(0, 0x42), 0);
        CHECKS.same("14 b goes on", x.accepts(0, 0x4), 1);
    }

    /**
     * ab is set to variable 0 and handed on from each variable to the next a round later, so that the
     * last one changes in the round before the last. Those that change in the first two rounds are not
     * widened, nor are they later, when they do not change any more.
     */
    private static void handedOn(int rounds) {
        int variables = rounds - 1;
        TaintScanner x = new TaintScanner();
        x.get(4, 0);
        x.loop(4, HAS, A);
        for (int v = variables - 1; v > 0; v--) {
            x.apply(v, v - 1, STRIP);
        }
        if (variables > 0) {
            x.set(0, 0x12);
        }
        x.end();
        for (int v = 0; v < variables; v++) {
            x.sink(v);
        }
        CHECKS.same("12 rounds " + rounds, x.analyse(), 0);
        CHECKS.same("16 rounds " + rounds, x.rounds(1), rounds);
        for (int v = 0; v < variables; v++) {
            // Variable v changes in round v + 1.
            boolean wide = v >= 2;
            String what = "rounds " + rounds + ", variable " + v;
            CHECKS.same("13 " + what, x.size(v), wide ? 2 : 4);
            CHECKS.same("14 " + what + ", the empty word", x.accepts(v, 0), 1);
            CHECKS.same("14 " + what + ", ab", x.accepts(v, 0x13), 1);
            CHECKS.same("14 " + what + ", a", x.accepts(v, 0x1), wide ? 1 : 0);
            CHECKS.same("14 " + what + ", abab", x.accepts(v, 0x1313), wide ? 1 : 0);
            CHECKS.same("14 " + what + ", a quote", x.accepts(v, 0x5), 0);
        }
    }

    /** A letter more each round: the third round's U is widened, the fourth finds it the same. */
    private static void growing() {
        TaintScanner x = new TaintScanner();
        x.get(4, 0);
        x.set(0, 0x1);
        x.set(3, 0x2);
        x.loop(4, HAS, A);
        x.sink(0);
        x.join(0, 0, 3);
        x.sink(0);
        x.end();
        x.sink(0);
        CHECKS.same("12 growing", x.analyse(), 0);
        CHECKS.same("16 growing", x.rounds(3), 4);
        CHECKS.same("13 in the last round", x.size(0), 2);
        CHECKS.same("13 behind the line", x.size(1), 3);
        CHECKS.same("14 behind the line, b", x.accepts(1, 0x3), 1);
        CHECKS.same("14 behind the line, not a", x.accepts(1, 0x1), 0);
        CHECKS.same("13 behind the loop", x.size(2), 2);
        CHECKS.same("14 behind the loop, the empty word", x.accepts(2, 0), 1);
        CHECKS.same("14 behind the loop, bab", x.accepts(2, 0x313), 1);
    }

    /** "From the third round on": variable 3 has new words in the fourth, when variable 2 is widened. */
    private static void widenedInTheFourth() {
        TaintScanner x = new TaintScanner();
        x.get(4, 0);
        x.loop(4, HAS, A);
        x.join(3, 2, 4);
        x.apply(2, 1, STRIP);
        x.apply(1, 0, STRIP);
        x.set(0, 0x12);
        x.end();
        x.sink(3);
        x.sink(2);
        x.sink(1);
        CHECKS.same("12 widened in the fourth", x.analyse(), 1);
        CHECKS.same("16 widened in the fourth", x.rounds(1), 5);
        CHECKS.same("13 widened in the fourth", x.size(0), 2);
        CHECKS.same("14 a tainted a before a", x.accepts(0, 0x21), 1);
        CHECKS.same("14 b alone", x.accepts(0, 0x3), 1);
        CHECKS.same("14 no plain quote", x.accepts(0, 0x5), 0);
        CHECKS.same("13 widened in the third", x.size(1), 2);
        CHECKS.same("13 not widened", x.size(2), 4);
    }

    /** Words of all letters with an a are handed on, so that variable 2 has them in the third round: no state of theirs is dead. */
    private static void widenedToAllLetters() {
        TaintScanner x = new TaintScanner();
        x.get(1, 0);
        x.set(2, 0x1234);
        x.join(3, 1, 2);
        x.join(3, 3, 2);
        x.join(3, 0, 3);
        x.set(1, 0);
        x.set(2, 0);
        x.loop(3, HAS, A);
        x.join(2, 1, 4);
        x.join(1, 0, 4);
        x.join(0, 3, 4);
        x.end();
        x.sink(2);
        x.sink(1);
        x.sink(3);
        CHECKS.same("12 all letters", x.analyse(), 3);
        CHECKS.same("16 all letters", x.rounds(7), 4);
        CHECKS.same("13 all words", x.size(0), 1);
        CHECKS.same("14 all words, aa", x.accepts(0, 0x12), 1);
        CHECKS.same("13 nothing or one with an a", x.size(1), 3);
        CHECKS.same("14 nothing or one with an a, b", x.accepts(1, 0x3), 0);
        CHECKS.same("14 behind the loop, b", x.accepts(2, 0x3), 1);
        CHECKS.same("14 behind the loop, a", x.accepts(2, 0x1), 0);
    }

    /** A variable that was widened gets a new letter later, and is widened with that again. */
    private static void lettersThatComeLate() {
        TaintScanner x = new TaintScanner();
        x.get(4, 0);
        x.set(0, 0x1);
        x.loop(4, HAS, A);
        x.when(2, HAS, 3);
        x.set(0, 0x14);
        x.end();
        x.join(0, 0, 0);
        x.apply(2, 1, 2);
        x.apply(1, 3, 2);
        x.set(3, 0x3);
        x.end();
        x.sink(0);
        x.sink(2);
        CHECKS.same("12 a late letter", x.analyse(), 1);
        CHECKS.same("16 a late letter", x.rounds(2), 5);
        CHECKS.same("13 both letters", x.size(0), 2);
        CHECKS.same("14 escape a", x.accepts(0, 0x71), 1);
        CHECKS.same("14 no b", x.accepts(0, 0x3), 0);
        CHECKS.same("13 of quotes", x.size(1), 2);
        CHECKS.same("15 a quote", x.witness(1, 0), 5);
    }

    /** The variable that the LOOP asks for is widened as any other; then its contrary keeps less of it. */
    private static void theConditionsVariable() {
        TaintScanner x = new TaintScanner();
        x.set(0, 0x1);
        x.set(1, 0x2);
        x.loop(0, 1, A);
        x.join(0, 0, 1);
        x.end();
        x.sink(0);
        CHECKS.same("12 a, ab, abb", x.analyse(), 0);
        CHECKS.same("16 a, ab, abb", x.rounds(2), 4);
        CHECKS.same("13 those that do not begin with a", x.size(0), 3);
        CHECKS.same("14 the empty word", x.accepts(0, 0), 1);
        CHECKS.same("14 ba", x.accepts(0, 0x31), 1);
        CHECKS.same("14 ab", x.accepts(0, 0x13), 0);
    }

    /** "H goes on, with what is kept by the contrary": what comes out of the lines and what was before. */
    private static void contraryGoesOn() {
        TaintScanner x = new TaintScanner();
        x.get(0, 0);
        x.loop(0, 2, B);
        x.set(0, 0x3);
        x.end();
        x.sink(0);
        CHECKS.same("12 what goes on", x.analyse(), 1);
        CHECKS.same("16 what goes on", x.rounds(1), 2);
        CHECKS.same("14 what came out", x.accepts(0, 0x5), 1);
        CHECKS.same("14 what was before", x.accepts(0, 0x42), 1);
        CHECKS.same("14 what the contrary does not keep", x.accepts(0, 0x24), 0);
    }

    /** A sink within has what it had in the last round, which is that of H, and not of the rounds before. */
    private static void sinksOfTheLastRound() {
        TaintScanner x = new TaintScanner();
        x.get(4, 0);
        x.loop(4, HAS, A);
        x.sink(0);
        x.set(0, 0x2);
        x.sink(0);
        x.sink(4);
        x.end();
        CHECKS.same("12 sinks of the last round", x.analyse(), 1);
        CHECKS.same("14 the empty word of the first", x.accepts(0, 0), 1);
        CHECKS.same("14 b of the second", x.accepts(0, 0x3), 1);
        CHECKS.same("14 behind the line no empty word", x.accepts(1, 0), 0);
        CHECKS.same("14 what the condition keeps", x.accepts(2, 0x42), 1);
        CHECKS.same("14 what it does not keep", x.accepts(2, 0x4), 0);
        CHECKS.same("15 the least of those", x.witness(2, 0), 2);
    }

    /**
     * Five b are widened by JOIN, which is not done with one or more b: so the sink has the empty word
     * behind a in the first round, and not in the last one, which counts.
     */
    private static void sinkThatHadMoreBefore() {
        TaintScanner x = new TaintScanner();
        x.get(4, 0);
        x.set(1, 0x2);
        x.loop(4, HAS, B);
        x.join(3, 3, 1);
        x.end();
        x.join(3, 3, 1);
        x.set(0, 0x22222);
        x.set(1, 0x1);
        x.loop(4, HAS, A);
        x.join(2, 1, 0);
        x.sink(2);
        x.apply(0, 3, STRIP);
        x.end();
        x.sink(2);
        x.sink(0);
        CHECKS.same("12 more before", x.analyse(), 0);
        CHECKS.same("16 more before", x.rounds(8), 2);
        CHECKS.same("13 in the last round", x.size(0), 4);
        CHECKS.same("14 ab, in the last round", x.accepts(0, 0x13), 1);
        CHECKS.same("14 a, not in the last round", x.accepts(0, 0x1), 0);
        CHECKS.same("14 a, of the first round, behind all", x.accepts(1, 0x1), 1);
        CHECKS.same("13 one or more b", x.size(2), 3);
    }

    /** "Be it on a dead way": by the same means a way has the word a in the first round, and is dead in the last. */
    private static void sinkThatIsDeadAtLast() {
        TaintScanner x = new TaintScanner();
        x.get(4, 0);
        x.set(1, 0x2);
        x.loop(4, HAS, B);
        x.join(3, 3, 1);
        x.end();
        x.join(3, 3, 1);
        x.set(0, 0x22222);
        x.set(1, 0x1);
        x.loop(4, HAS, A);
        x.join(2, 1, 0);
        x.apply(0, 3, STRIP);
        x.when(2, HAS, B);
        x.other();
        x.sink(2);
        x.loop(2, HAS, A);
        x.set(2, 0x3);
        x.end();
        x.sink(2);
        x.end();
        x.sink(2);
        x.end();
        CHECKS.same("12 dead at last", x.analyse(), 0);
        CHECKS.same("16 the outer loop", x.rounds(8), 2);
        CHECKS.same("16 two rounds at first, on a dead way at last", x.rounds(14), 1);
        for (int k = 0; k < 2; k++) {
            CHECKS.same("13 dead at last, sink " + k, x.size(k), 1);
            CHECKS.same("14 dead at last, a, sink " + k, x.accepts(k, 0x1), 0);
            CHECKS.same("14 dead at last, a quote, sink " + k, x.accepts(k, 0x5), 0);
            CHECKS.same("15 dead at last, sink " + k, x.witness(k, 0), -1);
        }
        CHECKS.same("13 a and one or more b", x.size(2), 4);
        CHECKS.same("14 a and one or more b", x.accepts(2, 0x133), 1);
        CHECKS.same("14 no quote of the first round", x.accepts(2, 0x5), 0);
    }

    /** "The last time that it came there": the inner loop makes 2 rounds at first, 1 at last; and the other way round. */
    private static void innerLoops() {
        TaintScanner x = new TaintScanner();
        x.get(4, 0);
        x.get(3, 0);
        x.loop(4, HAS, A);
        x.loop(3, HAS, A);
        x.set(0, 0x1);
        x.end();
        x.get(3, 1);
        x.end();
        CHECKS.same("12 inner loops", x.analyse(), 0);
        CHECKS.same("16 the outer one", x.rounds(2), 2);
        CHECKS.same("16 fewer at last", x.rounds(3), 1);

        x.clear();
        x.get(4, 0);
        x.loop(4, HAS, A);
        x.loop(0, HAS, A);
        x.set(0, 0x2);
        x.end();
        x.set(0, 0x1);
        x.end();
        CHECKS.same("12 inner loops again", x.analyse(), 0);
        CHECKS.same("16 the outer one again", x.rounds(1), 2);
        CHECKS.same("16 dead at first, two at last", x.rounds(2), 2);

        x.clear();
        x.get(4, 0);
        x.loop(4, HAS, A);
        x.set(0, 0);
        x.loop(1, HAS, A);
        x.join(0, 0, 1);
        x.end();
        x.set(1, 0x1);
        x.end();
        CHECKS.same("12 more at last", x.analyse(), 0);
        CHECKS.same("16 the outer one of those", x.rounds(1), 3);
        CHECKS.same("16 dead at first, four at last", x.rounds(3), 4);
    }

    private static void threeLoops() {
        TaintScanner x = new TaintScanner();
        x.get(4, 0);
        x.set(3, 0x2);
        x.loop(4, HAS, A);
        x.loop(4, HAS, B);
        x.loop(4, HAS, 3);
        x.join(0, 0, 3);
        x.end();
        x.end();
        x.end();
        x.sink(0);
        CHECKS.same("12 three loops", x.analyse(), 0);
        CHECKS.same("16 the first", x.rounds(2), 2);
        CHECKS.same("16 the second", x.rounds(3), 1);
        CHECKS.same("16 the third", x.rounds(4), 1);
        CHECKS.same("13 all of b", x.size(0), 2);
        CHECKS.same("14 all of b", x.accepts(0, 0x33333), 1);
    }

    /** Rounds are those of the latest analysis alone, as often as it is made. */
    private static void roundsOfTheLatestAnalysis() {
        TaintScanner x = new TaintScanner();
        x.get(4, 0);
        x.loop(4, HAS, A);
        x.set(0, 0x1);
        x.end();
        for (int i = 0; i < 3; i++) {
            CHECKS.same("12 again", x.analyse(), 0);
            CHECKS.same("16 again", x.rounds(1), 2);
        }
        x.set(1, 0x2);
        CHECKS.same("16 no analysis", x.rounds(1), -1);
        x.analyse();
        CHECKS.same("16 with a line more", x.rounds(1), 2);
        x.clear();
        CHECKS.same("16 cleared", x.rounds(1), -1);
        x.set(0, 0x1);
        x.loop(0, HAS, B);
        CHECKS.same("16 a new LOOP there, not analysed", x.rounds(1), -1);
        x.end();
        CHECKS.same("16 ended, not analysed", x.rounds(1), -1);
        x.analyse();
        CHECKS.same("16 a new LOOP there", x.rounds(1), 1);
    }

    /** "NONE when there is no analysis, or no LOOP there": every line of a program with all kinds of lines. */
    private static void linesThatAreNoLoops() {
        TaintScanner x = new TaintScanner();
        x.loop(0, HAS, A);
        x.set(0, 0x1);
        x.get(0, 0);
        x.join(0, 0, 0);
        x.apply(0, 0, 0);
        x.sink(0);
        x.when(0, HAS, A);
        x.other();
        x.end();
        x.end();
        x.loop(0, HAS, A);
        x.end();
        for (int i = -1; i <= 24; i++) {
            CHECKS.same("16 not analysed, line " + i, x.rounds(i), -1);
        }
        x.analyse();
        for (int i = -1; i <= 24; i++) {
            CHECKS.same("16 line " + i, x.rounds(i), i == 0 || i == 10 ? 1 : -1);
        }
        CHECKS.same("16 the lowest line", x.rounds(Integer.MIN_VALUE), -1);
        CHECKS.same("16 the highest line", x.rounds(Integer.MAX_VALUE), -1);
    }
}
