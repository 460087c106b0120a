/**
 * "Terms", for promises 12 to 16: "Whenever a language that a line, a condition or a union makes has a
 * size above 24, it is widened (ahead of all else, so U below, too)"; at 23 and 24 it is not.
 */
public final class Above24Test {
    private static final Checks CHECKS = new Checks();
    private static final int GUARD = 0;
    private static final int STRIP = 1;
    private static final int FOLD = 2;
    private static final int A = 1;
    private static final int B = 2;
    private static final int QUOTE = 3;
    private static final int ESCAPE = 4;

    public static void main(String[] args) {
        for (int size = 23; size <= 25; size++) {
            joinMakes(size);
            guardMakes(size);
            hasMakes(size);
            endsMakes(size);
            contraryMakes(size);
            conditionInLoopMakes(size);
            loopGoesOnWith(size);
            whenUnites(size);
            loopUnites(size);
            loopUnitesInItsSecondRound(size);
        }
        for (int size = 24; size <= 25; size++) {
            foldMakes(size);
            stripMakes(size);
        }
        foldMakes23();
        stripMakes23();
        widensByLettersOfTheFirstState();
        widensByLettersOfWaysBack(true);
        widensByLettersOfWaysBack(false);
        widensByLettersOfTheLastState();
        allLettersByALine();
        allLettersByTheThirdRound();
        widensWithoutADeadState();
        joinOfManyStates();
        CHECKS.close("Above24Test");
    }

    /** A sink's size when it was made by something of a size: widened above 24. */
    private static void size(TaintScanner x, String what, int k, int made) {
        CHECKS.same("13 " + what + " of size " + made, x.size(k), made > 24 ? 2 : made);
    }

    private static void joinMakes(int size) {
        TaintScanner x = new TaintScanner();
        Lines.addLetters(x, 0, 3, B, size - 3);
        x.set(1, 0x1);
        x.join(2, 0, 1);
        x.sink(2);
        CHECKS.same("12 JOIN", x.analyse(), 0);
        size(x, "JOIN", 0, size);
        CHECKS.same("14 JOIN, ab, of size " + size, x.accepts(0, 0x13), size > 24 ? 1 : 0);
        CHECKS.same("14 JOIN, the empty word, of size " + size, x.accepts(0, 0), size > 24 ? 1 : 0);
        CHECKS.same("14 JOIN, no escape, of size " + size, x.accepts(0, 0x7), 0);
    }

    /** Some quotes, which count twice, and an a or two. */
    private static void guardMakes(int size) {
        TaintScanner x = new TaintScanner();
        int plain = size % 2 == 0 ? 2 : 1;
        Lines.addLetters(x, 0, 3, QUOTE, (size - 2 - plain) / 2);
        x.set(1, plain == 1 ? 0x1 : 0x11);
        x.join(0, 0, 1);
        x.apply(2, 0, GUARD);
        x.sink(2);
        x.analyse();
        size(x, "GUARD", 0, size);
        CHECKS.same("14 GUARD, an escape, of size " + size, x.accepts(0, 0x7), size > 24 ? 1 : 0);
        CHECKS.same("14 GUARD, a quote and a, of size " + size, x.accepts(0, 0x51), size > 24 ? 1 : 0);
        CHECKS.same("14 GUARD, b, of size " + size, x.accepts(0, 0x3), 0);
    }

    /** With * for all words and X for one of b and escape: FOLD makes * a X X X a one of 25, * a a X X X a of 24. */
    private static void foldMakes(int size) {
        TaintScanner x = new TaintScanner();
        x.get(4, 0);
        Lines.addEither(x, 1, B, ESCAPE);
        Lines.addAllWords(x, 0, 1);
        x.set(2, A);
        x.join(0, 0, 2);
        if (size == 24) {
            x.join(0, 0, 2);
        }
        for (int i = 0; i < 3; i++) {
            x.join(0, 0, 1);
        }
        x.join(0, 0, 2);
        x.sink(0);
        x.apply(3, 0, FOLD);
        x.sink(3);
        CHECKS.same("12 FOLD", x.analyse(), 0);
        CHECKS.same("13 before FOLD", x.size(0), size == 24 ? 8 : 7);
        size(x, "FOLD", 1, size);
        CHECKS.same("14 FOLD, seven b", x.accepts(1, 0x3333333), 1);
        CHECKS.same("14 FOLD, an escape last", x.accepts(1, 0x3333337), size > 24 ? 1 : 0);
        CHECKS.same("14 FOLD, a", x.accepts(1, 0x1), 0);
    }

    /** STRIP makes of a* and (b or quote) a X X X a one of 24, of all words and quote a X X X a one of 25, X: a or b. */
    private static void stripMakes(int size) {
        TaintScanner x = new TaintScanner();
        x.get(4, 0);
        x.set(2, A);
        Lines.addEither(x, 3, A, B);
        Lines.addAllWords(x, 0, size == 24 ? 2 : 3);
        if (size == 24) {
            Lines.addEither(x, 1, QUOTE, B);
        } else {
            x.set(1, QUOTE);
        }
        x.join(0, 0, 1);
        x.join(0, 0, 2);
        for (int i = 0; i < 3; i++) {
            x.join(0, 0, 3);
        }
        x.join(0, 0, 2);
        x.sink(0);
        x.apply(1, 0, STRIP);
        x.sink(1);
        CHECKS.same("12 STRIP", x.analyse(), 1);
        CHECKS.same("13 before STRIP", x.size(0), 8);
        size(x, "STRIP", 1, size);
        CHECKS.same("14 STRIP, five a", x.accepts(1, 0x11111), 1);
        CHECKS.same("14 STRIP, b last", x.accepts(1, 0x11113), size > 24 ? 1 : 0);
        CHECKS.same("14 STRIP, a quote", x.accepts(1, 0x511111), 0);
    }

    /** One below: * a X X Y X a, with X for b or escape and Y for b or nothing. */
    private static void foldMakes23() {
        TaintScanner x = new TaintScanner();
        x.get(4, 0);
        Lines.addEither(x, 1, B, ESCAPE);
        Lines.addAllWords(x, 0, 1);
        x.set(2, A);
        Lines.addEither(x, 3, 0, B);
        for (int part : new int[] {2, 1, 1, 3, 1, 2}) {
            x.join(0, 0, part);
        }
        x.sink(0);
        x.apply(3, 0, FOLD);
        x.sink(3);
        CHECKS.same("12 FOLD", x.analyse(), 0);
        CHECKS.same("13 before FOLD", x.size(0), 8);
        size(x, "FOLD", 1, 23);
        CHECKS.same("14 FOLD, five b", x.accepts(1, 0x33333), 1);
        CHECKS.same("14 FOLD, an escape last", x.accepts(1, 0x33337), 0);
    }

    /** One below: any a, b or quote, a, one of a, b and quote, a, a or b, a. */
    private static void stripMakes23() {
        TaintScanner x = new TaintScanner();
        x.get(4, 0);
        x.set(2, A);
        Lines.addAllWords(x, 0, 2);
        Lines.addEither(x, 1, QUOTE, B);
        x.join(0, 0, 1);
        x.join(0, 0, 2);
        x.when(4, 0, ESCAPE);
        x.set(1, A);
        x.end();
        x.join(0, 0, 1);
        x.join(0, 0, 2);
        Lines.addEither(x, 1, A, B);
        x.join(0, 0, 1);
        x.join(0, 0, 2);
        x.apply(1, 0, STRIP);
        CHECKS.same("6 there is room", x.sink(1), 24);
        CHECKS.same("12 STRIP", x.analyse(), 0);
        size(x, "STRIP", 0, 23);
        CHECKS.same("14 STRIP, four a", x.accepts(0, 0x1111), 1);
        CHECKS.same("14 STRIP, b last", x.accepts(0, 0x1113), 0);
    }

    /** Words of n letters a or b that have an a: 2 n + 1; with an escape behind them: 2 n + 2. */
    private static void hasMakes(int size) {
        TaintScanner x = new TaintScanner();
        x.get(4, 0);
        Lines.addEither(x, 1, A, B);
        int letters = (size - 1) / 2;
        for (int i = 0; i < letters; i++) {
            x.join(0, 0, 1);
        }
        if (size % 2 == 0) {
            x.set(2, ESCAPE);
            x.join(0, 0, 2);
        }
        x.when(0, 0, A);
        x.sink(0);
        x.end();
        x.analyse();
        size(x, "HAS", 0, size);
        CHECKS.same("14 HAS, b, of size " + size, x.accepts(0, 0x3), size > 24 ? 1 : 0);
        CHECKS.same("14 HAS, an escape first, of size " + size, x.accepts(0, 0x71), 0);
        CHECKS.same("14 HAS, a quote, of size " + size, x.accepts(0, 0x5), 0);
    }

    /** Words of at most n letters a or b that end with an a: 2 n + 1; with an escape before them: 2 n + 2. */
    private static void endsMakes(int size) {
        TaintScanner x = new TaintScanner();
        x.get(4, 0);
        Lines.addUpTo(x, size, ESCAPE);
        x.when(0, 2, A);
        x.sink(0);
        x.end();
        x.analyse();
        size(x, "ENDS", 0, size);
        CHECKS.same("14 ENDS, b, of size " + size, x.accepts(0, 0x3), size > 24 ? 1 : 0);
        CHECKS.same("14 ENDS, a, of size " + size, x.accepts(0, 0x1), size % 2);
    }

    /** A contrary makes languages, too: those words of at most n letters that do not end with a. */
    private static void contraryMakes(int size) {
        TaintScanner x = new TaintScanner();
        x.get(4, 0);
        Lines.addUpTo(x, size, ESCAPE);
        x.when(0, 2, A);
        x.other();
        x.sink(0);
        x.end();
        x.analyse();
        size(x, "ENDS not", 0, size);
        CHECKS.same("14 ENDS not, a, of size " + size, x.accepts(0, 0x1), size > 24 ? 1 : 0);
        CHECKS.same("14 ENDS not, b, of size " + size, x.accepts(0, 0x3), size % 2);
    }

    /** A LOOP goes through nothing, but what its condition keeps is widened, and so is U by that. */
    private static void conditionInLoopMakes(int size) {
        TaintScanner x = new TaintScanner();
        x.get(4, 0);
        Lines.addUpTo(x, size, ESCAPE);
        int loop = x.loop(0, 2, A) - 1;
        x.sink(0);
        x.end();
        x.sink(0);
        x.analyse();
        boolean wide = size > 24;
        CHECKS.same("16 LOOP keeps what has size " + size, x.rounds(loop), wide ? 2 : 1);
        CHECKS.same("13 LOOP keeps what has size " + size, x.size(0), wide ? 3 : size);
        CHECKS.same("13 behind a LOOP that kept what has size " + size, x.size(1), wide ? 3 : size);
        CHECKS.same("14 LOOP, a, of size " + size, x.accepts(0, 0x1), size % 2);
        CHECKS.same("14 LOOP, 14 a, of size " + size, x.accepts(0, 0x11111111111111L), wide ? 1 : 0);
        CHECKS.same("14 LOOP, b, of size " + size, x.accepts(0, 0x3), 0);
        CHECKS.same("14 behind LOOP, b, of size " + size, x.accepts(1, 0x3), size % 2);
        CHECKS.same("14 behind LOOP, 14 b, of size " + size, x.accepts(1, 0x33333333333333L), wide ? 1 : 0);
        CHECKS.same("14 behind LOOP, a, of size " + size, x.accepts(1, 0x1), 0);
    }

    /**
     * What a LOOP's contrary keeps, when its condition keeps less: a quote and up to six letters a or
     * b, or an escape and n letters b. Those that do not end with an a: n + 13.
     */
    private static void loopGoesOnWith(int size) {
        TaintScanner x = new TaintScanner();
        x.get(4, 0);
        Lines.addUpTo(x, 14, QUOTE);
        x.when(4, 0, A);
        x.set(0, 0x422222);
        x.set(3, 0x2222);
        x.join(0, 0, 3);
        x.set(3, 0x222 >> 4 * (25 - size));
        x.join(0, 0, 3);
        x.end();
        int loop = x.loop(0, 2, A) - 1;
        x.end();
        CHECKS.same("6 there is room", x.sink(0), 24);
        x.analyse();
        CHECKS.same("16 behind LOOP of size " + size, x.rounds(loop), 1);
        size(x, "behind LOOP", 0, size);
        CHECKS.same("14 behind LOOP, a quote, of size " + size, x.accepts(0, 0x5), 1);
        CHECKS.same("14 behind LOOP, a quote and a, of size " + size, x.accepts(0, 0x51), size > 24 ? 1 : 0);
        CHECKS.same("14 behind LOOP, b, of size " + size, x.accepts(0, 0x3), size > 24 ? 1 : 0);
    }

    /** Some b, and a word of two other letters, of which the second brings one state more: n b's, n + 3. */
    private static void whenUnites(int size) {
        TaintScanner x = new TaintScanner();
        x.get(4, 0);
        Lines.addLetters(x, 0, 3, B, size - 3);
        x.when(4, 0, A);
        x.set(0, 0x14);
        x.end();
        x.sink(0);
        x.sink(4);
        CHECKS.same("12 a union", x.analyse(), 1);
        size(x, "a union", 0, size);
        CHECKS.same("14 a union, a escape, of size " + size, x.accepts(0, 0x17), 1);
        CHECKS.same("14 a union, escape b a, of size " + size, x.accepts(0, 0x731), size > 24 ? 1 : 0);
        CHECKS.same("14 a union, a quote, of size " + size, x.accepts(0, 0x5), 0);
        CHECKS.same("13 the other variables are not widened", x.size(1), 2);
    }

    /** "So U below, too": in the first round, ahead of the third. */
    private static void loopUnites(int size) {
        TaintScanner x = new TaintScanner();
        x.get(4, 0);
        Lines.addLetters(x, 0, 3, B, size - 3);
        int loop = x.loop(4, 0, A) - 1;
        x.set(0, 0x14);
        x.end();
        x.sink(0);
        CHECKS.same("12 U", x.analyse(), 0);
        size(x, "U", 0, size);
        CHECKS.same("16 U of size " + size, x.rounds(loop), 2);
        CHECKS.same("14 U, a escape, of size " + size, x.accepts(0, 0x17), 1);
        CHECKS.same("14 U, escape b a, of size " + size, x.accepts(0, 0x731), size > 24 ? 1 : 0);
        CHECKS.same("14 U, a quote, of size " + size, x.accepts(0, 0x5), 0);
    }

    /**
     * Some b or a, and in the second round aa as well, as variable 2 has an a from then on: no line
     * makes so large a language, but U is.
     */
    private static void loopUnitesInItsSecondRound(int size) {
        TaintScanner x = new TaintScanner();
        x.get(4, 0);
        Lines.addLetters(x, 0, 3, B, size - 3);
        x.when(4, 0, A);
        x.set(0, A);
        x.end();
        x.sink(0);
        x.set(3, A);
        int loop = x.loop(4, 0, A) - 1;
        x.join(0, 3, 2);
        x.set(2, A);
        x.end();
        x.sink(0);
        x.sink(2);
        CHECKS.same("12 U of round 2", x.analyse(), 0);
        CHECKS.same("13 before U of size " + size, x.size(0), size - 1);
        size(x, "U of round 2", 1, size);
        CHECKS.same("16 U of round 2, of size " + size, x.rounds(loop), 3);
        CHECKS.same("14 U of round 2, aa, of size " + size, x.accepts(1, 0x11), 1);
        CHECKS.same("14 U of round 2, ba, of size " + size, x.accepts(1, 0x31), size > 24 ? 1 : 0);
        CHECKS.same("14 U of round 2, a quote, of size " + size, x.accepts(1, 0x5), 0);
        CHECKS.same("13 what is small", x.size(2), 3);
        CHECKS.same("14 what is small", x.accepts(2, 0x11), 0);
    }

    /** An input and 22 b have 24 states, and 23 b have one more: then its letters count, though they lead nowhere else. */
    private static void widensByLettersOfTheFirstState() {
        for (int letters = 22; letters <= 23; letters++) {
            TaintScanner x = new TaintScanner();
            x.get(0, 0);
            x.set(1, 0x2222);
            for (int i = 0; i < 5; i++) {
                x.join(0, 0, 1);
            }
            x.set(1, letters == 22 ? 0x22 : 0x222);
            x.join(0, 0, 1);
            x.sink(0);
            CHECKS.same("12 an input and b", x.analyse(), 1);
            boolean wide = letters > 22;
            CHECKS.same("13 an input and b", x.size(0), wide ? 2 : 24);
            for (int letter = 1; letter <= 8; letter++) {
                boolean has = letter == 3 || letter % 2 == 0;
                CHECKS.same("14 letter " + letter + " by itself", x.accepts(0, letter), wide && has ? 1 : 0);
                CHECKS.same("14 letter " + letter + " behind b", x.accepts(0, 0x30 | letter), wide && has ? 1 : 0);
            }
        }
    }

    /** Any quotes and 22 b, or 22 b and any quotes: GUARD's escapes come before quotes alone, which lead back. */
    private static void widensByLettersOfWaysBack(boolean quotesFirst) {
        TaintScanner x = new TaintScanner();
        x.get(4, 0);
        x.set(1, QUOTE);
        Lines.addAllWords(x, 3, 1);
        if (quotesFirst) {
            x.set(1, 0x2222);
            for (int i = 0; i < 5; i++) {
                x.join(3, 3, 1);
            }
            x.set(1, 0x22);
            x.join(0, 3, 1);
        } else {
            Lines.addLetters(x, 0, 1, B, 22);
            x.join(0, 0, 3);
        }
        x.sink(0);
        x.apply(0, 0, GUARD);
        x.sink(0);
        CHECKS.same("12 quotes and b", x.analyse(), 2);
        CHECKS.same("13 quotes and b", x.size(0), 24);
        CHECKS.same("13 GUARD of quotes and b", x.size(1), 2);
        for (int letter = 1; letter <= 8; letter++) {
            CHECKS.same("14 letter " + letter, x.accepts(1, letter), letter == 3 || letter == 5 || letter == 7 ? 1 : 0);
        }
    }

    /** 21 b and any guarded quotes, or aa: its escapes lead to the last state alone, from which quotes lead back. */
    private static void widensByLettersOfTheLastState() {
        TaintScanner x = new TaintScanner();
        x.get(4, 0);
        x.set(1, QUOTE);
        Lines.addAllWords(x, 3, 1);
        x.apply(3, 3, GUARD);
        Lines.addLetters(x, 0, 1, B, 21);
        x.join(0, 0, 3);
        x.sink(0);
        x.when(4, 0, B);
        x.set(0, 0x11);
        x.end();
        x.sink(0);
        CHECKS.same("12 b and guarded quotes", x.analyse(), 2);
        CHECKS.same("13 b and guarded quotes", x.size(0), 24);
        CHECKS.same("13 those or aa", x.size(1), 2);
        for (int letter = 1; letter <= 8; letter++) {
            CHECKS.same("14 those or aa, letter " + letter, x.accepts(1, letter), letter % 2);
        }
    }

    /** All words of all eight letters are a language of size 1 that is not the empty one: a way with it is not dead. */
    private static void allLetters(TaintScanner x, String what) {
        x.sink(0);
        x.set(1, 0x1);
        x.sink(1);
        x.when(0, 0, A);
        x.sink(0);
        x.set(2, 0x2);
        x.sink(2);
        x.end();
        x.join(3, 0, 1);
        x.sink(3);
        CHECKS.same("12 " + what, x.analyse(), 3);
        CHECKS.same("13 all words, " + what, x.size(0), 1);
        CHECKS.same("14 all words, the empty one, " + what, x.accepts(0, 0), 1);
        CHECKS.same("14 all words, " + what, x.accepts(0, 0x876543212345678L), 1);
        CHECKS.same("15 all words, " + what, x.witness(0, 0), 2);
        CHECKS.same("13 not dead, " + what, x.size(1), 3);
        CHECKS.same("13 those with an a, " + what, x.size(2), 2);
        CHECKS.same("14 not those without, " + what, x.accepts(2, 0x34), 0);
        CHECKS.same("14 not dead in the block, " + what, x.accepts(3, 0x3), 1);
        CHECKS.same("13 all words and a, " + what, x.size(4), 2);
    }

    /** An input, twenty letters and four more: 26 states. */
    private static void allLettersByALine() {
        TaintScanner x = new TaintScanner();
        x.get(0, 0);
        x.set(1, 0x1234);
        for (int i = 0; i < 6; i++) {
            x.join(0, 0, 1);
        }
        allLetters(x, "by a line");
    }

    private static void allLettersByTheThirdRound() {
        TaintScanner x = new TaintScanner();
        x.get(4, 0);
        x.set(1, 0x1234);
        x.join(1, 4, 1);
        int loop = x.loop(4, 0, A) - 1;
        x.join(0, 0, 1);
        x.end();
        allLetters(x, "by the third round");
        CHECKS.same("16 all letters", x.rounds(loop), 4);
    }

    /** All words of all letters, and some b behind: no state is dead, so that n b have n + 1 states. */
    private static void widensWithoutADeadState() {
        for (int size = 23; size <= 25; size++) {
            TaintScanner x = new TaintScanner();
            x.get(1, 0);
            x.set(2, 0x1234);
            x.join(1, 1, 2);
            x.join(1, 1, 2);
            x.join(0, 0, 1);
            x.set(1, 0x2222);
            for (int i = 0; i < 5; i++) {
                x.join(0, 0, 1);
            }
            x.set(1, 0x2222 >> 4 * (25 - size));
            x.join(0, 0, 1);
            x.sink(0);
            x.join(3, 3, 0);
            x.sink(3);
            CHECKS.same("12 no dead state", x.analyse(), 2);
            CHECKS.same("13 no dead state, of size " + size, x.size(0), size > 24 ? 1 : size);
            CHECKS.same("14 no dead state, of size " + size, x.accepts(0, 0x3), size > 24 ? 1 : 0);
            CHECKS.same("13 widened by JOIN, of size " + size, x.size(1), 1);
        }
    }

    /** Up to 22 letters, and then a and up to three: hundreds of states are told apart before there are fewest. */
    private static void joinOfManyStates() {
        TaintScanner x = new TaintScanner();
        x.get(4, 0);
        x.when(4, 0, B);
        x.set(1, A);
        x.end();
        x.when(4, 0, ESCAPE);
        x.set(1, B);
        x.end();
        x.join(2, 1, 1);
        for (int i = 0; i < 11; i++) {
            x.join(0, 0, 2);
        }
        x.set(3, A);
        x.join(3, 3, 2);
        x.join(3, 3, 1);
        x.join(0, 0, 3);
        CHECKS.same("6 there is room", x.sink(0), 24);
        CHECKS.same("12 many states", x.analyse(), 0);
        CHECKS.same("13 many states", x.size(0), 2);
        CHECKS.same("14 many states, the empty word", x.accepts(0, 0), 1);
        CHECKS.same("14 many states, b", x.accepts(0, 0x3), 1);
        CHECKS.same("14 many states, an escape", x.accepts(0, 0x7), 0);
    }
}
