/**
 * "Terms", for promises 12 to 14: languages are widened by JOIN above size 6, by STRIP and FOLD above
 * 8, and whatever a line, a condition or a union makes above 24; at those sizes they are not.
 */
public final class SizeBoundsTest {
    private static final Checks CHECKS = new Checks();
    private static final int GUARD = 0;
    private static final int STRIP = 1;
    private static final int FOLD = 2;
    private static final int A = 1;
    private static final int B = 2;
    private static final int QUOTE = 3;
    private static final int ESCAPE = 4;

    public static void main(String[] args) {
        sizesOfConstants();
        sizesOfTheLeast();
        for (int letters = 3; letters <= 6; letters++) {
            joinsSecond(letters);
            joinsInputAsSecond(letters);
            joinsOneVariable(letters);
            joinsOneVariableIntoItself(letters);
        }
        joinsSecondOf24();
        joinsAnyFirst();
        widensByLettersOfWordsAlone();
        for (int letters = 5; letters <= 8; letters++) {
            strips(letters);
            folds(letters);
            guards(letters);
            appliesIntoItself(letters);
        }
        appliesTo24();
        for (int size = 23; size <= 25; size++) {
            joinMakes(size);
            guardMakes(size);
            hasMakes(size);
            endsMakes(size);
            contraryMakes(size);
            conditionInLoopMakes(size);
            loopGoesOnWith(size);
            whenUnites(size);
            loopUnites(size);
            loopUnitesInItsSecondRound(size);
        }
        for (int size = 24; size <= 25; size++) {
            foldMakes(size);
            stripMakes(size);
        }
        CHECKS.close("SizeBoundsTest");
    }

    /** Adds SETs and JOINs that make variable v, by variable part, some letters of a symbol: of n the size is n + 2. */
    private static void addLetters(TaintScanner x, int v, int part, int symbol, int letters) {
        int six = Math.min(letters, 6);
        x.set(v, symbol * (0x111111 >> 4 * (6 - six)));
        int rest = letters - six;
        if (rest >= 4) {
            x.set(part, symbol * 0x1111);
        }
        for (; rest >= 4; rest -= 4) {
            x.join(v, v, part);
        }
        if (rest > 0) {
            x.set(part, symbol * (0x1111 >> 4 * (4 - rest)));
            x.join(v, v, part);
        }
    }

    /** Adds four lines that make variable v one of two constants; variable 4 must be an input that may have a b or not. */
    private static void addEither(TaintScanner x, int v, int one, int another) {
        x.set(v, one);
        x.when(4, 0, B);
        x.set(v, another);
        x.end();
    }

    /** Adds three lines that make variable v, empty before, all words of the letters of variable part. */
    private static void addAllWords(TaintScanner x, int v, int part) {
        x.loop(4, 0, A);
        x.join(v, v, part);
        x.end();
    }

    private static void sizesOfConstants() {
        TaintScanner x = new TaintScanner();
        for (int letters = 0; letters <= 22; letters++) {
            x.clear();
            addLetters(x, 0, 1, QUOTE, letters);
            x.sink(0);
            x.analyse();
            CHECKS.same("13 " + letters + " quotes", x.size(0), letters + 2);
        }
    }

    /** Sizes 1 and 2: none, all of some letters, all of all. */
    private static void sizesOfTheLeast() {
        TaintScanner x = new TaintScanner();
        x.sink(0);
        x.get(1, 0);
        x.sink(1);
        x.set(2, 0x1234);
        x.join(3, 1, 2);
        x.join(3, 3, 2);
        x.join(0, 0, 3);
        x.sink(0);
        x.when(4, 0, A);
        x.sink(0);
        x.end();
        CHECKS.same("12 two", x.analyse(), 2);
        CHECKS.same("13 the empty word", x.size(0), 2);
        CHECKS.same("13 all of four letters", x.size(1), 2);
        CHECKS.same("13 all of eight letters", x.size(2), 1);
        CHECKS.same("14 the empty one of all", x.accepts(2, 0), 1);
        CHECKS.same("14 one of all", x.accepts(2, 0x123456781234567L), 1);
        CHECKS.same("15 the least attack of all", x.witness(2, 0), 2);
        CHECKS.same("13 none", x.size(3), 1);
        CHECKS.same("14 none", x.accepts(3, 0), 0);
        CHECKS.same("14 none, b", x.accepts(3, 3), 0);
    }

    /** "The second one is widened, if its size is above 6 (for this line alone)". */
    private static void joinsSecond(int letters) {
        TaintScanner x = new TaintScanner();
        x.set(0, 0x1);
        addLetters(x, 1, 3, B, letters);
        x.join(2, 0, 1);
        x.sink(2);
        x.sink(1);
        CHECKS.same("12 a and b", x.analyse(), 0);
        boolean wide = letters + 2 > 6;
        String what = " of size " + (letters + 2);
        CHECKS.same("13 a and one" + what, x.size(0), wide ? 3 : letters + 3);
        CHECKS.same("14 a and all of one" + what, x.accepts(0, 0x1333333L >> 4 * (6 - letters)), 1);
        CHECKS.same("14 a and less than one" + what, x.accepts(0, 0x1333333L >> 4 * (7 - letters)), wide ? 1 : 0);
        CHECKS.same("14 a and more than one" + what, x.accepts(0, 0x13333333L), wide ? 1 : 0);
        CHECKS.same("14 a alone, and one" + what, x.accepts(0, 0x1), wide ? 1 : 0);
        CHECKS.same("14 no a, and one" + what, x.accepts(0, 0x3), 0);
        CHECKS.same("13 itself stays" + what, x.size(1), letters + 2);
        CHECKS.same("14 itself stays" + what, x.accepts(1, 0), 0);
    }

    /** An input with some b behind it: its size is that of the b alone. */
    private static void joinsInputAsSecond(int letters) {
        TaintScanner x = new TaintScanner();
        x.set(0, 0x1);
        x.get(1, 0);
        addLetters(x, 2, 3, B, Math.min(letters, 4));
        x.join(1, 1, 2);
        if (letters > 4) {
            x.set(2, letters == 5 ? B : B * 0x11);
            x.join(1, 1, 2);
        }
        x.join(2, 0, 1);
        x.sink(2);
        x.sink(1);
        CHECKS.same("12 an input", x.analyse(), 2);
        boolean wide = letters + 2 > 6;
        String what = " of size " + (letters + 2);
        CHECKS.same("13 an input" + what, x.size(1), letters + 2);
        CHECKS.same("13 a and an input" + what, x.size(0), wide ? 3 : letters + 3);
        long behind = 0x333333L >> 4 * (6 - letters);
        CHECKS.same("14 a and an input" + what, x.accepts(0, 0x12468L << 4 * letters | behind), 1);
        CHECKS.same("14 a and letters of an input" + what, x.accepts(0, 0x13434), wide ? 1 : 0);
        CHECKS.same("14 a and no letter of an input" + what, x.accepts(0, 0x11), 0);
        CHECKS.same("14 letters of an input" + what, x.accepts(0, 0x2), 0);
    }

    /** "Also when both are one variable's": the second of them alone, and for this line alone. */
    private static void joinsOneVariable(int letters) {
        TaintScanner x = new TaintScanner();
        addLetters(x, 1, 3, B, letters);
        x.join(2, 1, 1);
        x.sink(2);
        x.sink(1);
        x.analyse();
        boolean wide = letters + 2 > 6;
        String what = " of size " + (letters + 2);
        CHECKS.same("13 one twice" + what, x.size(0), wide ? letters + 2 : 2 * letters + 2);
        for (int n = 0; n <= 13; n++) {
            long word = n == 0 ? 0 : 0x3333333333333L >> 4 * (13 - n);
            CHECKS.same("14 " + n + " of one twice" + what, x.accepts(0, word), (wide ? n >= letters : n == 2 * letters) ? 1 : 0);
            CHECKS.same("14 " + n + " of one" + what, x.accepts(1, word), n == letters ? 1 : 0);
        }
    }

    private static void joinsOneVariableIntoItself(int letters) {
        TaintScanner x = new TaintScanner();
        addLetters(x, 1, 3, B, letters);
        x.join(1, 1, 1);
        x.sink(1);
        x.analyse();
        boolean wide = letters + 2 > 6;
        String what = " of size " + (letters + 2);
        CHECKS.same("13 itself twice" + what, x.size(0), wide ? letters + 2 : 2 * letters + 2);
        CHECKS.same("14 less than itself" + what, x.accepts(0, 0x33333L >> 4 * (6 - letters)), 0);
        CHECKS.same("14 itself once" + what, x.accepts(0, 0x333333L >> 4 * (6 - letters)), wide ? 1 : 0);
        CHECKS.same("14 itself twice" + what, x.accepts(0, 0x333333333333L >> 8 * (6 - letters)), 1);
    }

    private static void joinsSecondOf24() {
        TaintScanner x = new TaintScanner();
        addLetters(x, 1, 3, B, 22);
        x.set(0, 0x1);
        x.join(2, 0, 1);
        x.sink(2);
        x.sink(1);
        x.analyse();
        CHECKS.same("13 a and one of size 24", x.size(0), 3);
        CHECKS.same("14 a and one of size 24", x.accepts(0, 0x133), 1);
        CHECKS.same("13 of size 24", x.size(1), 24);
    }

    /** The first one is not widened, whatever its size. */
    private static void joinsAnyFirst() {
        for (int letters = 3; letters <= 21; letters++) {
            TaintScanner x = new TaintScanner();
            addLetters(x, 1, 3, B, letters);
            x.set(0, 0x1);
            x.join(2, 1, 0);
            x.sink(2);
            x.analyse();
            CHECKS.same("13 a first of size " + (letters + 2), x.size(0), letters + 3);
            CHECKS.same("14 a first of size " + (letters + 2), x.accepts(0, 0x31), 0);
        }
    }

    /** "All words of the letters that occur in its words": not of letters that it had before a condition. */
    private static void widensByLettersOfWordsAlone() {
        TaintScanner x = new TaintScanner();
        x.get(1, 0);
        x.loop(1, 0, A);
        x.end();
        x.loop(1, 0, ESCAPE);
        x.end();
        addLetters(x, 2, 3, B, 4);
        x.join(1, 1, 2);
        x.join(1, 1, 2);
        x.join(0, 0, 1);
        x.sink(0);
        x.sink(1);
        CHECKS.same("12 letters", x.analyse(), 2);
        CHECKS.same("13 not widened", x.size(1), 10);
        CHECKS.same("13 widened", x.size(0), 2);
        for (int letter = 1; letter <= 8; letter++) {
            boolean has = letter == 3 || letter == 4 || letter == 6;
            CHECKS.same("14 letter " + letter, x.accepts(0, letter), has ? 1 : 0);
            CHECKS.same("14 letter " + letter + " of more", x.accepts(0, 0x3634 << 4 | letter), has ? 1 : 0);
        }
    }

    /** "For STRIP and FOLD the language is widened before, if its size is above 8": quotes and one a. */
    private static void strips(int letters) {
        TaintScanner x = new TaintScanner();
        addLetters(x, 0, 3, QUOTE, letters - 1);
        x.set(1, 0x1);
        x.join(0, 0, 1);
        x.apply(1, 0, STRIP);
        x.sink(1);
        x.sink(0);
        x.analyse();
        boolean wide = letters + 2 > 8;
        String what = " of size " + (letters + 2);
        CHECKS.same("13 STRIP" + what, x.size(0), wide ? 2 : 3);
        CHECKS.same("14 STRIP, a" + what, x.accepts(0, 0x1), 1);
        CHECKS.same("14 STRIP, aa" + what, x.accepts(0, 0x11), wide ? 1 : 0);
        CHECKS.same("14 STRIP, the empty word" + what, x.accepts(0, 0), wide ? 1 : 0);
        CHECKS.same("14 STRIP, a quote" + what, x.accepts(0, 0x5), 0);
        CHECKS.same("13 STRIP leaves as it is one" + what, x.size(1), letters + 2);
        CHECKS.same("14 STRIP leaves as it is one" + what, x.accepts(1, 0x1), 0);
    }

    private static void folds(int letters) {
        TaintScanner x = new TaintScanner();
        addLetters(x, 0, 3, ESCAPE, letters - 1);
        x.set(1, 0x1);
        x.join(0, 0, 1);
        x.apply(1, 0, FOLD);
        x.sink(1);
        x.sink(0);
        x.analyse();
        boolean wide = letters + 2 > 8;
        String what = " of size " + (letters + 2);
        long escapes = 0x7777777L >> 4 * (8 - letters);
        CHECKS.same("13 FOLD" + what, x.size(0), wide ? 2 : letters + 2);
        CHECKS.same("14 FOLD, escapes and b" + what, x.accepts(0, escapes << 4 | 3), 1);
        CHECKS.same("14 FOLD, escapes and a" + what, x.accepts(0, escapes << 4 | 1), 0);
        CHECKS.same("14 FOLD, b and an escape" + what, x.accepts(0, 0x37), wide ? 1 : 0);
        CHECKS.same("14 FOLD, a" + what, x.accepts(0, 0x1), 0);
        CHECKS.same("13 FOLD leaves as it is one" + what, x.size(1), letters + 2);
        CHECKS.same("14 FOLD leaves as it is one" + what, x.accepts(1, escapes << 4 | 1), 1);
    }

    /** GUARD does not widen before, whatever the size. */
    private static void guards(int letters) {
        TaintScanner x = new TaintScanner();
        addLetters(x, 0, 3, QUOTE, letters - 1);
        x.set(1, 0x1);
        x.join(0, 0, 1);
        x.apply(1, 0, GUARD);
        x.sink(1);
        x.analyse();
        String what = " of size " + (letters + 2);
        CHECKS.same("13 GUARD" + what, x.size(0), 2 * letters + 1);
        long quotes = 0x75757575757575L >> 8 * (8 - letters);
        CHECKS.same("14 GUARD" + what, x.accepts(0, quotes << 4 | 1), 1);
        CHECKS.same("14 GUARD, a" + what, x.accepts(0, 0x1), 0);
    }

    /** The same with one variable for both. */
    private static void appliesIntoItself(int letters) {
        for (int f = 0; f < 3; f++) {
            TaintScanner x = new TaintScanner();
            addLetters(x, 2, 3, A, letters);
            x.apply(2, 2, f);
            x.sink(2);
            x.analyse();
            boolean wide = letters + 2 > 8 && f != GUARD;
            String what = ", function " + f + " into itself, of size " + (letters + 2);
            CHECKS.same("13" + what, x.size(0), wide ? 2 : letters + 2);
            CHECKS.same("14" + what, x.accepts(0, f == FOLD ? 0x3 : 0x1), wide ? 1 : 0);
        }
    }

    private static void appliesTo24() {
        for (int f = 0; f < 3; f++) {
            TaintScanner x = new TaintScanner();
            addLetters(x, 0, 3, A, 22);
            x.apply(1, 0, f);
            x.sink(1);
            x.sink(0);
            x.analyse();
            CHECKS.same("13 function " + f + " of size 24", x.size(0), f == GUARD ? 24 : 2);
            CHECKS.same("13 it stays as it was", x.size(1), 24);
        }
    }

    /** A sink's size when it was made by something of a size: widened above 24. */
    private static void size(TaintScanner x, String what, int k, int made) {
        CHECKS.same("13 " + what + " of size " + made, x.size(k), made > 24 ? 2 : made);
    }

    private static void joinMakes(int size) {
        TaintScanner x = new TaintScanner();
        addLetters(x, 0, 3, B, size - 3);
        x.set(1, 0x1);
        x.join(2, 0, 1);
        x.sink(2);
        CHECKS.same("12 JOIN", x.analyse(), 0);
        size(x, "JOIN", 0, size);
        CHECKS.same("14 JOIN, ab, of size " + size, x.accepts(0, 0x13), size > 24 ? 1 : 0);
        CHECKS.same("14 JOIN, the empty word, of size " + size, x.accepts(0, 0), size > 24 ? 1 : 0);
        CHECKS.same("14 JOIN, no escape, of size " + size, x.accepts(0, 0x7), 0);
    }

    /** Some quotes, which count twice, and an a or two. */
    private static void guardMakes(int size) {
        TaintScanner x = new TaintScanner();
        int plain = size % 2 == 0 ? 2 : 1;
        addLetters(x, 0, 3, QUOTE, (size - 2 - plain) / 2);
        x.set(1, plain == 1 ? 0x1 : 0x11);
        x.join(0, 0, 1);
        x.apply(2, 0, GUARD);
        x.sink(2);
        x.analyse();
        size(x, "GUARD", 0, size);
        CHECKS.same("14 GUARD, an escape, of size " + size, x.accepts(0, 0x7), size > 24 ? 1 : 0);
        CHECKS.same("14 GUARD, a quote and a, of size " + size, x.accepts(0, 0x51), size > 24 ? 1 : 0);
        CHECKS.same("14 GUARD, b, of size " + size, x.accepts(0, 0x3), 0);
    }

    /** With * for all words and X for one of b and escape: FOLD makes * a X X X a one of 25, * a a X X X a of 24. */
    private static void foldMakes(int size) {
        TaintScanner x = new TaintScanner();
        x.get(4, 0);
        addEither(x, 1, B, ESCAPE);
        addAllWords(x, 0, 1);
        x.set(2, A);
        x.join(0, 0, 2);
        if (size == 24) {
            x.join(0, 0, 2);
        }
        for (int i = 0; i < 3; i++) {
            x.join(0, 0, 1);
        }
        x.join(0, 0, 2);
        x.sink(0);
        x.apply(3, 0, FOLD);
        x.sink(3);
        CHECKS.same("12 FOLD", x.analyse(), 0);
        CHECKS.same("13 before FOLD", x.size(0), size == 24 ? 8 : 7);
        size(x, "FOLD", 1, size);
        CHECKS.same("14 FOLD, seven b", x.accepts(1, 0x3333333), 1);
        CHECKS.same("14 FOLD, an escape last", x.accepts(1, 0x3333337), size > 24 ? 1 : 0);
        CHECKS.same("14 FOLD, a", x.accepts(1, 0x1), 0);
    }

    /** STRIP makes of a* and (b or quote) a X X X a one of 24, of all words and quote a X X X a one of 25, X: a or b. */
    private static void stripMakes(int size) {
        TaintScanner x = new TaintScanner();
        x.get(4, 0);
        x.set(2, A);
        addEither(x, 3, A, B);
        addAllWords(x, 0, size == 24 ? 2 : 3);
        if (size == 24) {
            addEither(x, 1, QUOTE, B);
        } else {
            x.set(1, QUOTE);
        }
        x.join(0, 0, 1);
        x.join(0, 0, 2);
        for (int i = 0; i < 3; i++) {
            x.join(0, 0, 3);
        }
        x.join(0, 0, 2);
        x.sink(0);
        x.apply(1, 0, STRIP);
        x.sink(1);
        CHECKS.same("12 STRIP", x.analyse(), 1);
        CHECKS.same("13 before STRIP", x.size(0), 8);
        size(x, "STRIP", 1, size);
        CHECKS.same("14 STRIP, five a", x.accepts(1, 0x11111), 1);
        CHECKS.same("14 STRIP, b last", x.accepts(1, 0x11113), size > 24 ? 1 : 0);
        CHECKS.same("14 STRIP, a quote", x.accepts(1, 0x511111), 0);
    }

    /** Words of n letters a or b that have an a: 2 n + 1; with an escape behind them: 2 n + 2. */
    private static void hasMakes(int size) {
        TaintScanner x = new TaintScanner();
        x.get(4, 0);
        addEither(x, 1, A, B);
        int letters = (size - 1) / 2;
        for (int i = 0; i < letters; i++) {
            x.join(0, 0, 1);
        }
        if (size % 2 == 0) {
            x.set(2, ESCAPE);
            x.join(0, 0, 2);
        }
        x.when(0, 0, A);
        x.sink(0);
        x.end();
        x.analyse();
        size(x, "HAS", 0, size);
        CHECKS.same("14 HAS, b, of size " + size, x.accepts(0, 0x3), size > 24 ? 1 : 0);
        CHECKS.same("14 HAS, an escape first, of size " + size, x.accepts(0, 0x71), 0);
        CHECKS.same("14 HAS, a quote, of size " + size, x.accepts(0, 0x5), 0);
    }

    /** Words of at most n letters a or b that end with an a: 2 n + 1; with an escape before them: 2 n + 2. */
    private static void endsMakes(int size) {
        TaintScanner x = new TaintScanner();
        x.get(4, 0);
        addUpTo(x, size, ESCAPE);
        x.when(0, 2, A);
        x.sink(0);
        x.end();
        x.analyse();
        size(x, "ENDS", 0, size);
        CHECKS.same("14 ENDS, b, of size " + size, x.accepts(0, 0x3), size > 24 ? 1 : 0);
        CHECKS.same("14 ENDS, a, of size " + size, x.accepts(0, 0x1), size % 2);
    }

    /** Adds lines that make variable 0 all words of up to (size - 1) / 2 letters a or b, behind a symbol if size is even. */
    private static void addUpTo(TaintScanner x, int size, int symbol) {
        x.when(4, 0, B);
        x.set(1, A);
        x.end();
        x.when(4, 0, ESCAPE);
        x.set(1, B);
        x.end();
        if (size % 2 == 0) {
            x.set(0, symbol);
        }
        for (int i = 0; i < (size - 1) / 2; i++) {
            x.join(0, 0, 1);
        }
    }

    /** A contrary makes languages, too: those words of at most n letters that do not end with a. */
    private static void contraryMakes(int size) {
        TaintScanner x = new TaintScanner();
        x.get(4, 0);
        addUpTo(x, size, ESCAPE);
        x.when(0, 2, A);
        x.other();
        x.sink(0);
        x.end();
        x.analyse();
        size(x, "ENDS not", 0, size);
        CHECKS.same("14 ENDS not, a, of size " + size, x.accepts(0, 0x1), size > 24 ? 1 : 0);
        CHECKS.same("14 ENDS not, b, of size " + size, x.accepts(0, 0x3), size % 2);
    }

    /** A LOOP goes through nothing, but what its condition keeps is widened, and so is U by that. */
    private static void conditionInLoopMakes(int size) {
        TaintScanner x = new TaintScanner();
        x.get(4, 0);
        addUpTo(x, size, ESCAPE);
        int loop = x.loop(0, 2, A) - 1;
        x.sink(0);
        x.end();
        x.sink(0);
        x.analyse();
        boolean wide = size > 24;
        CHECKS.same("16 LOOP keeps what has size " + size, x.rounds(loop), wide ? 2 : 1);
        CHECKS.same("13 LOOP keeps what has size " + size, x.size(0), wide ? 3 : size);
        CHECKS.same("13 behind a LOOP that kept what has size " + size, x.size(1), wide ? 3 : size);
        CHECKS.same("14 LOOP, a, of size " + size, x.accepts(0, 0x1), size % 2);
        CHECKS.same("14 LOOP, 14 a, of size " + size, x.accepts(0, 0x11111111111111L), wide ? 1 : 0);
        CHECKS.same("14 LOOP, b, of size " + size, x.accepts(0, 0x3), 0);
        CHECKS.same("14 behind LOOP, b, of size " + size, x.accepts(1, 0x3), size % 2);
        CHECKS.same("14 behind LOOP, 14 b, of size " + size, x.accepts(1, 0x33333333333333L), wide ? 1 : 0);
        CHECKS.same("14 behind LOOP, a, of size " + size, x.accepts(1, 0x1), 0);
    }

    /**
     * What a LOOP's contrary keeps, when its condition keeps less: a quote and up to six letters a or
     * b, or an escape and n letters b. Those that do not end with an a: n + 13.
     */
    private static void loopGoesOnWith(int size) {
        TaintScanner x = new TaintScanner();
        x.get(4, 0);
        addUpTo(x, 14, QUOTE);
        x.when(4, 0, A);
        x.set(0, 0x422222);
        x.set(3, 0x2222);
        x.join(0, 0, 3);
        x.set(3, 0x222 >> 4 * (25 - size));
        x.join(0, 0, 3);
        x.end();
        int loop = x.loop(0, 2, A) - 1;
        x.end();
        CHECKS.same("6 there is room", x.sink(0), 24);
        x.analyse();
        CHECKS.same("16 behind LOOP of size " + size, x.rounds(loop), 1);
        size(x, "behind LOOP", 0, size);
        CHECKS.same("14 behind LOOP, a quote, of size " + size, x.accepts(0, 0x5), 1);
        CHECKS.same("14 behind LOOP, a quote and a, of size " + size, x.accepts(0, 0x51), size > 24 ? 1 : 0);
        CHECKS.same("14 behind LOOP, b, of size " + size, x.accepts(0, 0x3), size > 24 ? 1 : 0);
    }

    /** Some b, and a word of two other letters, of which the second brings one state more: n b's, n + 3. */
    private static void whenUnites(int size) {
        TaintScanner x = new TaintScanner();
        x.get(4, 0);
        addLetters(x, 0, 3, B, size - 3);
        x.when(4, 0, A);
        x.set(0, 0x14);
        x.end();
        x.sink(0);
        x.sink(4);
        CHECKS.same("12 a union", x.analyse(), 1);
        size(x, "a union", 0, size);
        CHECKS.same("14 a union, a escape, of size " + size, x.accepts(0, 0x17), 1);
        CHECKS.same("14 a union, escape b a, of size " + size, x.accepts(0, 0x731), size > 24 ? 1 : 0);
        CHECKS.same("14 a union, a quote, of size " + size, x.accepts(0, 0x5), 0);
        CHECKS.same("13 the other variables are not widened", x.size(1), 2);
    }

    /** "So U below, too": in the first round, ahead of the third. */
    private static void loopUnites(int size) {
        TaintScanner x = new TaintScanner();
        x.get(4, 0);
        addLetters(x, 0, 3, B, size - 3);
        x.loop(4, 0, A);
        x.set(0, 0x14);
        x.end();
        x.sink(0);
        CHECKS.same("12 U", x.analyse(), 0);
        size(x, "U", 0, size);
        CHECKS.same("16 U of size " + size, x.rounds(linesOf(size - 3) + 1), 2);
        CHECKS.same("14 U, a escape, of size " + size, x.accepts(0, 0x17), 1);
        CHECKS.same("14 U, escape b a, of size " + size, x.accepts(0, 0x731), size > 24 ? 1 : 0);
        CHECKS.same("14 U, a quote, of size " + size, x.accepts(0, 0x5), 0);
    }

    /** How many lines addLetters adds for more than ten letters. */
    private static int linesOf(int letters) {
        int rest = letters - 6;
        return 2 + rest / 4 + (rest % 4 == 0 ? 0 : 2);
    }

    /** Variable 1 gets in the second round what variable 2 got in the first. */
    private static void loopUnitesInItsSecondRound(int size) {
        TaintScanner x = new TaintScanner();
        x.get(4, 0);
        addLetters(x, 0, 3, B, size - 3);
        x.join(1, 0, 2);
        x.set(3, 0);
        x.loop(4, 0, A);
        x.when(2, 0, ESCAPE);
        x.set(0, 0x14);
        x.end();
        x.set(2, 0x4);
        x.end();
        x.sink(0);
        x.sink(1);
        CHECKS.same("12 U of round 2", x.analyse(), 0);
        size(x, "U of round 2", 0, size);
        CHECKS.same("16 U of round 2, of size " + size, x.rounds(linesOf(size - 3) + 3), 3);
        CHECKS.same("14 U of round 2, a escape, of size " + size, x.accepts(0, 0x17), 1);
        CHECKS.same("14 U of round 2, escape b a, of size " + size, x.accepts(0, 0x731), size > 24 ? 1 : 0);
        CHECKS.same("13 what does not change", x.size(1), size - 1);
    }
}
