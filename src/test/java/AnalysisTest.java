/** Promises 12 to 16: analyse and the questions about sinks and loops, with answers told by the document's words. */
public final class AnalysisTest {
    private static final Checks CHECKS = new Checks();

    public static void main(String[] args) {
        analyseCountsUnsafeSinks();
        analysisIsInvalidBehindLines();
        refusedCallsKeepTheAnalysis();
        sizesOfPlainLanguages();
        joinWidensTheSecondAboveSix();
        applyWidensAboveEight();
        linesWidenAbove24();
        conditionsWidenAbove24();
        unionsWidenAbove24();
        conditionsKeepWords();
        contrariesKeepWords();
        deadWays();
        whenUnites();
        sinkHasTheLastLanguage();
        loopsMakeRounds();
        thirdRoundWidensWhatChanged();
        innerLoopTellsItsLastTime();
        functionsMakeLanguages();
        acceptsAsksForWords();
        witnessIsShortestAndLeast();
        roundsAskForLoops();
        CHECKS.close("AnalysisTest");
    }

    private static void analyseCountsUnsafeSinks() {
        TaintScanner x = new TaintScanner();
        CHECKS.same("12 no lines", x.analyse(), 0);
        x.get(0, 0);
        for (int i = 0; i < 3; i++) {
            x.sink(0);
            x.sink(1);
        }
        CHECKS.same("12 three of six", x.analyse(), 3);
        CHECKS.same("12 again", x.analyse(), 3);
        x.when(0, 0, 1);
        CHECKS.same("12 a block is open", x.analyse(), -1);
        CHECKS.same("12 no analysis by that", x.size(0), -1);
        x.end();
        CHECKS.same("12 closed", x.analyse(), 3);
    }

    private static void analysisIsInvalidBehindLines() {
        for (int kind = 0; kind < 8; kind++) {
            TaintScanner x = new TaintScanner();
            x.sink(0);
            x.loop(0, 0, 1);
            x.end();
            x.analyse();
            CHECKS.same("13 analysed", x.size(0), 2);
            CHECKS.same("16 analysed", x.rounds(1), 1);
            int lines = switch (kind) {
                case 0 -> x.set(0, 0);
                case 1 -> x.get(0, 0);
                case 2 -> x.join(0, 0, 0);
                case 3 -> x.apply(0, 0, 0);
                case 4 -> x.sink(1);
                case 5 -> x.when(0, 0, 1);
                case 6 -> x.loop(0, 0, 1);
                default -> x.clear();
            };
            CHECKS.same("added " + kind, lines, kind == 7 ? 3 : 4);
            CHECKS.same("13 invalid " + kind, x.size(0), -1);
            CHECKS.same("14 invalid " + kind, x.accepts(0, 0), -1);
            CHECKS.same("15 invalid " + kind, x.witness(0, 0), -1);
            CHECKS.same("16 invalid " + kind, x.rounds(1), -1);
        }
    }

    private static void refusedCallsKeepTheAnalysis() {
        TaintScanner x = new TaintScanner();
        x.get(0, 0);
        x.loop(0, 0, 1);
        x.end();
        x.sink(0);
        x.analyse();
        x.set(5, 1);
        x.set(0, 5);
        x.get(0, 3);
        x.join(0, 0, 5);
        x.apply(0, 0, 3);
        x.sink(5);
        x.when(0, 0, 5);
        x.loop(0, 3, 1);
        x.other();
        x.end();
        x.give(0, 0x1234);
        x.give(0, 5);
        x.run(100);
        x.run(0);
        x.attack(2);
        CHECKS.same("13 stays", x.size(0), 2);
        CHECKS.same("15 stays", x.witness(0, 0), 4);
        CHECKS.same("16 stays", x.rounds(1), 1);
    }

    private static void sizesOfPlainLanguages() {
        TaintScanner x = new TaintScanner();
        x.sink(0);
        x.set(1, 0x1);
        x.sink(1);
        x.set(1, 0x123412);
        x.sink(1);
        x.get(2, 0);
        x.sink(2);
        CHECKS.same("12 constants and an input", x.analyse(), 2);
        CHECKS.same("13 the empty word", x.size(0), 2);
        CHECKS.same("13 one letter", x.size(1), 3);
        CHECKS.same("13 six letters", x.size(2), 8);
        CHECKS.same("13 an input", x.size(3), 2);
        CHECKS.same("13 sink -1", x.size(-1), -1);
        CHECKS.same("13 sink 4", x.size(4), -1);
        CHECKS.same("13 sink 6", x.size(6), -1);
        CHECKS.same("13 far off", x.size(Integer.MAX_VALUE), -1);
        CHECKS.same("14 the empty word", x.accepts(0, 0), 1);
        CHECKS.same("14 more", x.accepts(0, 1), 0);
        CHECKS.same("14 the constant", x.accepts(2, 0x135713), 1);
        CHECKS.same("14 the constant tainted", x.accepts(2, 0x246824), 0);
        CHECKS.same("14 an empty input", x.accepts(3, 0), 1);
        CHECKS.same("14 tainted", x.accepts(3, 0x2468), 1);
        CHECKS.same("14 not tainted", x.accepts(3, 0x2467), 0);
    }

    private static void joinWidensTheSecondAboveSix() {
        TaintScanner x = new TaintScanner();
        x.set(0, 0x1);
        x.set(1, 0x2222);
        x.join(2, 0, 1);
        x.sink(2);
        x.set(1, 0x22222);
        x.join(2, 0, 1);
        x.sink(2);
        x.join(2, 1, 1);
        x.sink(2);
        x.sink(1);
        x.join(1, 1, 0);
        x.sink(1);
        CHECKS.same("12 joins", x.analyse(), 0);
        CHECKS.same("13 size 6 is not widened", x.size(0), 7);
        CHECKS.same("14 abbbb", x.accepts(0, 0x13333), 1);
        CHECKS.same("14 abbb", x.accepts(0, 0x1333), 0);
        CHECKS.same("13 size 7 is", x.size(1), 3);
        CHECKS.same("14 a", x.accepts(1, 0x1), 1);
        CHECKS.same("14 abbbbbbb", x.accepts(1, 0x13333333), 1);
        CHECKS.same("14 no a", x.accepts(1, 0x3), 0);
        CHECKS.same("13 of one variable the second alone", x.size(2), 7);
        CHECKS.same("14 bbbbb", x.accepts(2, 0x33333), 1);
        CHECKS.same("14 bbbb", x.accepts(2, 0x3333), 0);
        CHECKS.same("14 bbbbbbbb", x.accepts(2, 0x33333333), 1);
        CHECKS.same("13 for that line alone", x.size(3), 7);
        CHECKS.same("14 bbbb stays out", x.accepts(3, 0x3333), 0);
        CHECKS.same("13 the first is not widened", x.size(4), 8);
        CHECKS.same("14 bbbbba", x.accepts(4, 0x333331), 1);
    }

    private static void applyWidensAboveEight() {
        for (int f = 0; f < 3; f++) {
            TaintScanner x = new TaintScanner();
            x.set(0, 0x121412);
            x.apply(1, 0, f);
            x.sink(1);
            x.set(1, 0x1);
            x.join(0, 0, 1);
            x.apply(1, 0, f);
            x.sink(1);
            x.sink(0);
            x.analyse();
            CHECKS.same("13 size 8 with " + f, x.size(0), f == 0 ? 9 : 8);
            long[] six = {0x1317713, 0x131713, 0x333733};
            CHECKS.same("14 six letters with " + f, x.accepts(0, six[f]), 1);
            CHECKS.same("13 size 9 with " + f, x.size(1), f == 0 ? 10 : 2);
            CHECKS.same("14 seven letters with " + f, x.accepts(1, f == 2 ? six[f] << 4 | 3 : six[f] << 4 | 1), 1);
            CHECKS.same("14 widened but for GUARD, with " + f, x.accepts(1, 0x7), f == 0 ? 0 : 1);
            CHECKS.same("13 for that line alone, with " + f, x.size(2), 9);
        }
    }

    /** Adds lines that make variable 0 a constant of 22 letters b, whose size is 24. */
    private static void add22(TaintScanner x) {
        x.set(0, 0x222222);
        x.set(1, 0x2222);
        for (int i = 0; i < 4; i++) {
            x.join(0, 0, 1);
        }
    }

    private static void linesWidenAbove24() {
        TaintScanner x = new TaintScanner();
        add22(x);
        x.sink(0);
        x.set(1, 0x3);
        x.join(2, 0, 1);
        x.sink(2);
        x.set(3, 0x333333);
        x.set(1, 0x3333);
        x.join(3, 3, 1);
        x.set(1, 0x4);
        x.join(3, 3, 1);
        x.apply(2, 3, 0);
        x.sink(2);
        x.join(3, 3, 1);
        x.apply(2, 3, 0);
        x.sink(2);
        CHECKS.same("12 long ones", x.analyse(), 3);
        CHECKS.same("13 size 24", x.size(0), 24);
        CHECKS.same("14 fifteen letters alone", x.accepts(0, 0x333333333333333L), 0);
        CHECKS.same("13 JOIN above 24", x.size(1), 2);
        CHECKS.same("14 all words of its letters", x.accepts(1, 0x5533553L), 1);
        CHECKS.same("14 the empty one", x.accepts(1, 0), 1);
        CHECKS.same("14 no other letter", x.accepts(1, 0x1), 0);
        CHECKS.same("13 GUARD of 11", x.size(2), 24);
        CHECKS.same("13 GUARD of 12", x.size(3), 2);
        CHECKS.same("14 GUARD of 12", x.accepts(3, 0x5577), 1);
        CHECKS.same("14 GUARD of 12, b", x.accepts(3, 0x3), 0);
    }

    /** All words of n letters a or b have n + 2 states; those of them with an a have 2 * n + 1. */
    private static void conditionsWidenAbove24() {
        TaintScanner x = new TaintScanner();
        x.set(2, 0x2);
        x.get(4, 0);
        x.when(4, 0, 1);
        x.set(2, 0x1);
        x.end();
        for (int i = 0; i < 11; i++) {
            x.join(0, 0, 2);
        }
        x.sink(0);
        x.when(0, 0, 1);
        x.sink(0);
        x.end();
        x.sink(0);
        CHECKS.same("12 eleven of a or b", x.analyse(), 0);
        CHECKS.same("13 all", x.size(0), 13);
        CHECKS.same("13 with an a: 23 states", x.size(1), 23);
        CHECKS.same("14 bbbbbbbbbbb", x.accepts(1, 0x33333333333L), 0);
        CHECKS.same("14 bbbbbbbbbba", x.accepts(1, 0x33333333331L), 1);
        CHECKS.same("13 all again", x.size(2), 13);

        x.clear();
        x.set(2, 0x2);
        x.get(4, 0);
        x.when(4, 0, 1);
        x.set(2, 0x1);
        x.end();
        for (int i = 0; i < 12; i++) {
            x.join(0, 0, 2);
        }
        x.when(0, 0, 1);
        x.sink(0);
        x.end();
        x.sink(0);
        CHECKS.same("12 twelve of a or b", x.analyse(), 0);
        CHECKS.same("13 25 states, so widened", x.size(0), 2);
        CHECKS.same("14 the condition's letters", x.accepts(0, 0x3), 1);
        CHECKS.same("14 none but them", x.accepts(0, 0x4), 0);
        CHECKS.same("13 the union of that", x.size(1), 2);
    }

    private static void unionsWidenAbove24() {
        TaintScanner x = new TaintScanner();
        add22(x);
        x.get(4, 0);
        x.when(4, 0, 1);
        x.set(0, 0x1);
        x.end();
        x.sink(0);
        x.when(4, 0, 1);
        x.set(0, 0x12);
        x.end();
        x.sink(0);
        x.when(4, 0, 1);
        x.set(0, 0x14);
        x.end();
        x.sink(0);
        CHECKS.same("12 unions", x.analyse(), 0);
        CHECKS.same("13 a shares the last state", x.size(0), 24);
        CHECKS.same("14 a", x.accepts(0, 0x1), 1);
        CHECKS.same("13 a, ab and 22 b: a new state behind a", x.size(1), 2);
        CHECKS.same("14 widened", x.accepts(1, 0x3113), 1);
        CHECKS.same("14 not the escape", x.accepts(1, 0x7), 0);
        CHECKS.same("13 all of a and b, and a escape", x.size(2), 5);
        CHECKS.same("14 a escape", x.accepts(2, 0x17), 1);
        CHECKS.same("14 escape", x.accepts(2, 0x7), 0);
    }

    private static void addBoth(TaintScanner x, int condition) {
        x.get(0, 0);
        x.set(1, 0x2);
        x.join(0, 0, 1);
        x.when(0, condition, 2);
        x.sink(0);
        x.other();
        x.sink(0);
        x.end();
        x.analyse();
    }

    private static void conditionsKeepWords() {
        TaintScanner x = new TaintScanner();
        addBoth(x, 0);
        CHECKS.same("13 HAS keeps all", x.size(0), 3);
        CHECKS.same("13 none is left", x.size(1), 1);
        CHECKS.same("14 none is left", x.accepts(1, 0x3), 0);
        x.clear();
        addBoth(x, 1);
        CHECKS.same("14 BEGINS b", x.accepts(0, 0x3), 1);
        CHECKS.same("14 BEGINS tainted b", x.accepts(0, 0x43), 1);
        CHECKS.same("14 BEGINS tainted a", x.accepts(0, 0x23), 0);
        CHECKS.same("14 BEGINS not", x.accepts(1, 0x23), 1);
        CHECKS.same("14 BEGINS not, tainted b", x.accepts(1, 0x43), 0);
        CHECKS.same("14 BEGINS not, b", x.accepts(1, 0x3), 0);
        x.clear();
        addBoth(x, 2);
        CHECKS.same("14 ENDS", x.accepts(0, 0x23), 1);
        CHECKS.same("13 ENDS not", x.size(1), 1);
    }

    private static void contrariesKeepWords() {
        for (int condition = 0; condition < 3; condition++) {
            TaintScanner x = new TaintScanner();
            x.get(0, 0);
            x.when(0, condition, 4);
            x.sink(0);
            x.other();
            x.sink(0);
            x.end();
            x.sink(0);
            x.analyse();
            long[] words = {0, 0x8, 0x28, 0x82, 0x282, 0x828, 0x2, 0x666};
            boolean[][] holds = {
                {false, true, true, true, true, true, false, false},
                {false, true, false, true, false, true, false, false},
                {false, true, true, false, false, true, false, false},
            };
            for (int i = 0; i < words.length; i++) {
                String what = "14 condition " + condition + " of " + Long.toHexString(words[i]);
                CHECKS.same(what, x.accepts(0, words[i]), holds[condition][i] ? 1 : 0);
                CHECKS.same(what + ", contrary", x.accepts(1, words[i]), holds[condition][i] ? 0 : 1);
                CHECKS.same(what + ", behind", x.accepts(2, words[i]), 1);
            }
            CHECKS.same("13 the union is what was", x.size(2), 2);
        }
    }

    private static void deadWays() {
        TaintScanner x = new TaintScanner();
        x.set(0, 0x1);
        x.when(0, 0, 2);
        x.sink(0);
        x.set(1, 0x3);
        x.get(2, 0);
        x.sink(1);
        x.sink(2);
        x.loop(3, 0, 1);
        x.get(3, 0);
        x.sink(3);
        x.end();
        x.end();
        x.sink(1);
        x.sink(0);
        CHECKS.same("12 a dead way", x.analyse(), 0);
        for (int k = 0; k < 4; k++) {
            CHECKS.same("13 dead sink " + k, x.size(k), 1);
            CHECKS.same("14 dead sink " + k, x.accepts(k, 0), 0);
            CHECKS.same("15 dead sink " + k, x.witness(k, 0), -1);
        }
        CHECKS.same("16 a LOOP on a dead way", x.rounds(7), 1);
        CHECKS.same("13 not dead behind END", x.size(4), 2);
        CHECKS.same("14 the other way alone", x.accepts(4, 0), 1);
        CHECKS.same("14 a", x.accepts(5, 0x1), 1);

        x.clear();
        x.set(0, 0x1);
        x.loop(0, 0, 1);
        x.end();
        x.set(0, 0x2);
        x.sink(0);
        x.when(0, 0, 2);
        x.sink(0);
        x.end();
        x.loop(0, 0, 2);
        x.end();
        x.sink(0);
        CHECKS.same("12 a loop that has no end", x.analyse(), 0);
        for (int k = 0; k < 3; k++) {
            CHECKS.same("13 behind it " + k, x.size(k), 1);
        }
        CHECKS.same("16 that loop", x.rounds(1), 1);
        CHECKS.same("16 one behind it", x.rounds(8), 1);
    }

    private static void whenUnites() {
        TaintScanner x = new TaintScanner();
        x.get(0, 0);
        x.when(0, 1, 1);
        x.set(1, 0x1);
        x.when(0, 2, 2);
        x.set(1, 0x2);
        x.other();
        x.set(2, 0x3);
        x.end();
        x.other();
        x.set(1, 0x4);
        x.end();
        x.sink(1);
        x.sink(2);
        x.sink(0);
        CHECKS.same("12 ways", x.analyse(), 2);
        CHECKS.same("13 a or b or escape", x.size(0), 3);
        CHECKS.same("14 a", x.accepts(0, 0x1), 1);
        CHECKS.same("14 b", x.accepts(0, 0x3), 1);
        CHECKS.same("14 quote", x.accepts(0, 0x5), 0);
        CHECKS.same("14 escape", x.accepts(0, 0x7), 1);
        CHECKS.same("14 the empty word went", x.accepts(0, 0), 0);
        CHECKS.same("14 the empty word", x.accepts(1, 0), 1);
        CHECKS.same("14 the quote", x.accepts(1, 0x5), 1);
        CHECKS.same("13 the input as it was", x.size(2), 2);
    }

    private static void sinkHasTheLastLanguage() {
        TaintScanner x = new TaintScanner();
        x.set(0, 0x1);
        x.get(1, 0);
        x.loop(1, 0, 2);
        x.sink(0);
        x.set(0, 0x2);
        x.get(1, 0);
        x.end();
        CHECKS.same("12 a sink in a loop", x.analyse(), 0);
        CHECKS.same("16 two rounds", x.rounds(2), 2);
        CHECKS.same("14 a at first", x.accepts(0, 0x1), 1);
        CHECKS.same("14 b by the last round", x.accepts(0, 0x3), 1);
        CHECKS.same("13 both", x.size(0), 3);
    }

    private static void loopsMakeRounds() {
        TaintScanner x = new TaintScanner();
        x.get(1, 0);
        x.loop(1, 0, 2);
        x.end();
        x.set(0, 0x2);
        x.loop(0, 0, 1);
        x.set(2, 0x3);
        x.end();
        x.sink(2);
        x.loop(0, 0, 2);
        x.set(0, 0x1);
        x.end();
        x.sink(0);
        x.sink(1);
        CHECKS.same("12 loops", x.analyse(), 1);
        CHECKS.same("16 nothing changes", x.rounds(1), 1);
        CHECKS.same("16 never gone through", x.rounds(4), 1);
        CHECKS.same("13 so nothing changes", x.size(0), 2);
        CHECKS.same("16 once", x.rounds(8), 2);
        CHECKS.same("14 the contrary keeps a", x.accepts(1, 0x1), 1);
        CHECKS.same("14 and no b", x.accepts(1, 0x3), 0);
        CHECKS.same("14 the first loop keeps no b", x.accepts(2, 0x24), 0);
        CHECKS.same("14 but a", x.accepts(2, 0x22), 1);
    }

    /** Variables 0 and 1 have changed in the third round, variable 2 has not. */
    private static void thirdRoundWidensWhatChanged() {
        TaintScanner x = new TaintScanner();
        x.set(0, 0x1);
        x.set(3, 0x2);
        x.get(4, 0);
        x.loop(4, 0, 1);
        x.set(2, 0x12);
        x.join(1, 1, 3);
        x.join(0, 0, 3);
        x.end();
        x.sink(0);
        x.sink(1);
        x.sink(2);
        CHECKS.same("12 a growing one", x.analyse(), 0);
        CHECKS.same("16 four rounds", x.rounds(3), 4);
        CHECKS.same("13 all of a and b", x.size(0), 2);
        CHECKS.same("14 baab", x.accepts(0, 0x3113), 1);
        CHECKS.same("14 all of b", x.accepts(1, 0x3333333), 1);
        CHECKS.same("14 no a", x.accepts(1, 0x31), 0);
        CHECKS.same("13 the empty word or ab", x.size(2), 4);
        CHECKS.same("14 ab", x.accepts(2, 0x13), 1);
        CHECKS.same("14 abab", x.accepts(2, 0x1313), 0);

        x.clear();
        x.set(0, 0x2);
        x.get(4, 0);
        x.loop(4, 0, 1);
        x.join(3, 2, 0);
        x.join(2, 1, 0);
        x.set(1, 0x1);
        x.end();
        x.sink(3);
        CHECKS.same("12 one that is handed on", x.analyse(), 0);
        CHECKS.same("16 new words till the third round", x.rounds(2), 4);
        CHECKS.same("14 all of a and b", x.accepts(0, 0x3311), 1);
    }

    private static void innerLoopTellsItsLastTime() {
        TaintScanner x = new TaintScanner();
        x.get(4, 0);
        x.loop(4, 0, 1);
        x.loop(4, 0, 2);
        x.set(0, 0x1);
        x.end();
        x.end();
        x.sink(0);
        CHECKS.same("12 loops in loops", x.analyse(), 0);
        CHECKS.same("16 outer", x.rounds(1), 2);
        CHECKS.same("16 inner: nothing new the last time", x.rounds(2), 1);
        CHECKS.same("14 a", x.accepts(0, 0x1), 1);
    }

    private static void functionsMakeLanguages() {
        TaintScanner x = new TaintScanner();
        x.get(0, 0);
        x.set(1, 0x1234);
        x.join(0, 0, 1);
        x.apply(1, 0, 0);
        x.sink(1);
        x.apply(2, 0, 1);
        x.sink(2);
        x.apply(3, 0, 2);
        x.sink(3);
        x.sink(0);
        CHECKS.same("12 functions", x.analyse(), 4);
        CHECKS.same("14 GUARD of an input", x.accepts(0, 0x2_86_88_1_3_75_77L), 1);
        CHECKS.same("14 GUARD: escape not tainted", x.accepts(0, 0x2_76_88_1_3_75_77L), 0);
        CHECKS.same("14 GUARD: no escape", x.accepts(0, 0x6_1_3_75_77L), 0);
        CHECKS.same("14 GUARD: an escape alone", x.accepts(0, 0x8_1_3_75_77L), 0);
        CHECKS.same("14 STRIP", x.accepts(1, 0x28137), 1);
        CHECKS.same("14 STRIP: no quote", x.accepts(1, 0x68137), 0);
        CHECKS.same("14 FOLD", x.accepts(2, 0x4683357), 1);
        CHECKS.same("14 FOLD: no a", x.accepts(2, 0x2683357), 0);
        CHECKS.same("14 as it was", x.accepts(3, 0x2681357), 1);
    }

    private static void acceptsAsksForWords() {
        TaintScanner x = new TaintScanner();
        x.get(0, 0);
        x.sink(0);
        CHECKS.same("14 not analysed", x.accepts(0, 0), -1);
        x.analyse();
        CHECKS.same("14 15 letters", x.accepts(0, 0x222222222222222L), 1);
        CHECKS.same("14 16 letters", x.accepts(0, 0x2222222222222222L), -1);
        CHECKS.same("14 a digit 9", x.accepts(0, 0x9), -1);
        CHECKS.same("14 a digit 0 within", x.accepts(0, 0x202), -1);
        CHECKS.same("14 a digit 0 last", x.accepts(0, 0x20), -1);
        CHECKS.same("14 below 0", x.accepts(0, -1), -1);
        CHECKS.same("14 least", x.accepts(0, Long.MIN_VALUE), -1);
        CHECKS.same("14 16 digits of 8", x.accepts(0, 0x8888888888888888L), -1);
        CHECKS.same("14 sink -1", x.accepts(-1, 0), -1);
        CHECKS.same("14 sink 1", x.accepts(1, 0), -1);
    }

    private static void witnessIsShortestAndLeast() {
        TaintScanner x = new TaintScanner();
        x.get(1, 0);
        x.set(0, 0x13);
        x.join(2, 0, 1);
        x.sink(2);
        x.sink(1);
        x.sink(0);
        x.sink(3);
        x.set(4, 0x313);
        x.join(4, 4, 1);
        x.sink(4);
        CHECKS.same("12 four unsafe", x.analyse(), 4);
        long[][] witnesses = {{1, 5, 0, 0}, {2, 0, 0, 0}, {1, 5, 0, 0}, {-1, -1, -1, -1}, {5, 1, 5, 2}};
        for (int k = 0; k < witnesses.length; k++) {
            for (int i = 0; i < 4; i++) {
                CHECKS.same("15 witness " + k + " " + i, x.witness(k, i), witnesses[k][i]);
            }
        }
        CHECKS.same("15 behind its end", x.witness(4, 4), 0);
        CHECKS.same("15 far behind", x.witness(0, Integer.MAX_VALUE), 0);
        CHECKS.same("15 i below 0", x.witness(0, -1), -1);
        CHECKS.same("15 sink -1", x.witness(-1, 0), -1);
        CHECKS.same("15 sink 5", x.witness(5, 0), -1);
        longWitness();
    }

    /** 22 letters that end within quotes: the witness is longer than a word may be. */
    private static void longWitness() {
        TaintScanner x = new TaintScanner();
        x.set(0, 0x222223);
        x.set(1, 0x1111);
        for (int i = 0; i < 4; i++) {
            x.join(0, 0, 1);
        }
        x.sink(0);
        CHECKS.same("12 long", x.analyse(), 1);
        for (int i = 0; i < 24; i++) {
            CHECKS.same("15 long " + i, x.witness(0, i), i < 5 ? 3 : i == 5 ? 5 : i < 22 ? 1 : 0);
        }
    }

    private static void roundsAskForLoops() {
        TaintScanner x = new TaintScanner();
        x.when(0, 0, 1);
        x.end();
        x.loop(0, 0, 1);
        x.end();
        CHECKS.same("16 not analysed", x.rounds(2), -1);
        x.analyse();
        CHECKS.same("16 a LOOP", x.rounds(2), 1);
        for (int i : new int[] {-1, 0, 1, 3, 4, 23, 24, Integer.MIN_VALUE, Integer.MAX_VALUE}) {
            CHECKS.same("16 line " + i, x.rounds(i), -1);
        }
        x.clear();
        x.set(0, 1);
        x.set(0, 1);
        x.set(0, 1);
        x.analyse();
        CHECKS.same("16 no LOOP any more", x.rounds(2), -1);
    }
}
