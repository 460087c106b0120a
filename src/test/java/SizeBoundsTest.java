/**
 * "Terms", for promises 12 to 14: a language is widened by JOIN above size 6, when it is the second,
 * and by STRIP and FOLD above 8, for that line alone; at those sizes it is not.
 */
public final class SizeBoundsTest {
    private static final Checks CHECKS = new Checks();
    private static final int GUARD = 0;
    private static final int STRIP = 1;
    private static final int FOLD = 2;
    private static final int A = 1;
    private static final int B = 2;
    private static final int QUOTE = 3;
    private static final int ESCAPE = 4;

    public static void main(String[] args) {
        sizesOfConstants();
        sizesOfTheLeast();
        for (int letters = 3; letters <= 6; letters++) {
            joinsSecond(letters);
            joinsInputAsSecond(letters);
            joinsOneVariable(letters);
            joinsOneVariableIntoItself(letters);
        }
        joinsSecondOf24();
        joinsAnyFirst();
        widensByLettersOfWordsAlone();
        for (int letters = 5; letters <= 8; letters++) {
            strips(letters);
            folds(letters);
            guards(letters);
            appliesIntoItself(letters);
        }
        appliesTo24();
        CHECKS.close("SizeBoundsTest");
    }

    private static void sizesOfConstants() {
        TaintScanner x = new TaintScanner();
        for (int letters = 0; letters <= 22; letters++) {
            x.clear();
            Lines.addLetters(x, 0, 1, QUOTE, letters);
            x.sink(0);
            x.analyse();
            CHECKS.same("13 " + letters + " quotes", x.size(0), letters + 2);
        }
    }

    /** Sizes 1 and 2: none, all of some letters, all of all. */
    private static void sizesOfTheLeast() {
        TaintScanner x = new TaintScanner();
        x.sink(0);
        x.get(1, 0);
        x.sink(1);
        x.set(2, 0x1234);
        x.join(3, 1, 2);
        x.join(3, 3, 2);
        x.join(0, 0, 3);
        x.sink(0);
        x.when(4, 0, A);
        x.sink(0);
        x.end();
        CHECKS.same("12 two", x.analyse(), 2);
        CHECKS.same("13 the empty word", x.size(0), 2);
        CHECKS.same("13 all of four letters", x.size(1), 2);
        CHECKS.same("13 all of eight letters", x.size(2), 1);
        CHECKS.same("14 the empty one of all", x.accepts(2, 0), 1);
        CHECKS.same("14 one of all", x.accepts(2, 0x123456781234567L), 1);
        CHECKS.same("15 the least attack of all", x.witness(2, 0), 2);
        CHECKS.same("13 none", x.size(3), 1);
        CHECKS.same("14 none", x.accepts(3, 0), 0);
        CHECKS.same("14 none, b", x.accepts(3, 3), 0);
    }

    /** "The second one is widened, if its size is above 6 (for this line alone)". */
    private static void joinsSecond(int letters) {
        TaintScanner x = new TaintScanner();
        x.set(0, 0x1);
        Lines.addLetters(x, 1, 3, B, letters);
        x.join(2, 0, 1);
        x.sink(2);
        x.sink(1);
        CHECKS.same("12 a and b", x.analyse(), 0);
        boolean wide = letters + 2 > 6;
        String what = " of size " + (letters + 2);
        CHECKS.same("13 a and one" + what, x.size(0), wide ? 3 : letters + 3);
        CHECKS.same("14 a and all of one" + what, x.accepts(0, 0x1333333L >> 4 * (6 - letters)), 1);
        CHECKS.same("14 a and less than one" + what, x.accepts(0, 0x1333333L >> 4 * (7 - letters)), wide ? 1 : 0);
        CHECKS.same("14 a and more than one" + what, x.accepts(0, 0x13333333L), wide ? 1 : 0);
        CHECKS.same("14 a alone, and one" + what, x.accepts(0, 0x1), wide ? 1 : 0);
        CHECKS.same("14 no a, and one" + what, x.accepts(0, 0x3), 0);
        CHECKS.same("13 itself stays" + what, x.size(1), letters + 2);
        CHECKS.same("14 itself stays" + what, x.accepts(1, 0), 0);
    }

    /** An input with some b behind it: its size is that of the b alone. */
    private static void joinsInputAsSecond(int letters) {
        TaintScanner x = new TaintScanner();
        x.set(0, 0x1);
        x.get(1, 0);
        Lines.addLetters(x, 2, 3, B, Math.min(letters, 4));
        x.join(1, 1, 2);
        if (letters > 4) {
            x.set(2, letters == 5 ? B : B * 0x11);
            x.join(1, 1, 2);
        }
        x.join(2, 0, 1);
        x.sink(2);
        x.sink(1);
        CHECKS.same("12 an input", x.analyse(), 2);
        boolean wide = letters + 2 > 6;
        String what = " of size " + (letters + 2);
        CHECKS.same("13 an input" + what, x.size(1), letters + 2);
        CHECKS.same("13 a and an input" + what, x.size(0), wide ? 3 : letters + 3);
        long behind = 0x333333L >> 4 * (6 - letters);
        CHECKS.same("14 a and an input" + what, x.accepts(0, 0x12468L << 4 * letters | behind), 1);
        CHECKS.same("14 a and letters of an input" + what, x.accepts(0, 0x13434), wide ? 1 : 0);
        CHECKS.same("14 a and no letter of an input" + what, x.accepts(0, 0x11), 0);
        CHECKS.same("14 letters of an input" + what, x.accepts(0, 0x2), 0);
    }

    /** "Also when both are one variable's": the second of them alone, and for this line alone. */
    private static void joinsOneVariable(int letters) {
        TaintScanner x = new TaintScanner();
        Lines.addLetters(x, 1, 3, B, letters);
        x.join(2, 1, 1);
        x.sink(2);
        x.sink(1);
        x.analyse();
        boolean wide = letters + 2 > 6;
        String what = " of size " + (letters + 2);
        CHECKS.same("13 one twice" + what, x.size(0), wide ? letters + 2 : 2 * letters + 2);
        for (int n = 0; n <= 13; n++) {
            long word = n == 0 ? 0 : 0x3333333333333L >> 4 * (13 - n);
            CHECKS.same("14 " + n + " of one twice" + what, x.accepts(0, word), (wide ? n >= letters : n == 2 * letters) ? 1 : 0);
            CHECKS.same("14 " + n + " of one" + what, x.accepts(1, word), n == letters ? 1 : 0);
        }
    }

    private static void joinsOneVariableIntoItself(int letters) {
        TaintScanner x = new TaintScanner();
        Lines.addLetters(x, 1, 3, B, letters);
        x.join(1, 1, 1);
        x.sink(1);
        x.analyse();
        boolean wide = letters + 2 > 6;
        String what = " of size " + (letters + 2);
        CHECKS.same("13 itself twice" + what, x.size(0), wide ? letters + 2 : 2 * letters + 2);
        CHECKS.same("14 less than itself" + what, x.accepts(0, 0x33333L >> 4 * (6 - letters)), 0);
        CHECKS.same("14 itself once" + what, x.accepts(0, 0x333333L >> 4 * (6 - letters)), wide ? 1 : 0);
        CHECKS.same("14 itself twice" + what, x.accepts(0, 0x333333333333L >> 8 * (6 - letters)), 1);
    }

    private static void joinsSecondOf24() {
        TaintScanner x = new TaintScanner();
        Lines.addLetters(x, 1, 3, B, 22);
        x.set(0, 0x1);
        x.join(2, 0, 1);
        x.sink(2);
        x.sink(1);
        x.analyse();
        CHECKS.same("13 a and one of size 24", x.size(0), 3);
        CHECKS.same("14 a and one of size 24", x.accepts(0, 0x133), 1);
        CHECKS.same("13 of size 24", x.size(1), 24);
    }

    /** The first one is not widened, whatever its size. */
    private static void joinsAnyFirst() {
        for (int letters = 3; letters <= 21; letters++) {
            TaintScanner x = new TaintScanner();
            Lines.addLetters(x, 1, 3, B, letters);
            x.set(0, 0x1);
            x.join(2, 1, 0);
            x.sink(2);
            x.analyse();
            CHECKS.same("13 a first of size " + (letters + 2), x.size(0), letters + 3);
            CHECKS.same("14 a first of size " + (letters + 2), x.accepts(0, 0x31), 0);
        }
    }

    /** "All words of the letters that occur in its words": not of letters that it had before a condition. */
    private static void widensByLettersOfWordsAlone() {
        TaintScanner x = new TaintScanner();
        x.get(1, 0);
        x.loop(1, 0, A);
        x.end();
        x.loop(1, 0, ESCAPE);
        x.end();
        Lines.addLetters(x, 2, 3, B, 4);
        x.join(1, 1, 2);
        x.join(1, 1, 2);
        x.join(0, 0, 1);
        x.sink(0);
        x.sink(1);
        CHECKS.same("12 letters", x.analyse(), 2);
        CHECKS.same("13 not widened", x.size(1), 10);
        CHECKS.same("13 widened", x.size(0), 2);
        for (int letter = 1; letter <= 8; letter++) {
            boolean has = letter == 3 || letter == 4 || letter == 6;
            CHECKS.same("14 letter " + letter, x.accepts(0, letter), has ? 1 : 0);
            CHECKS.same("14 letter " + letter + " of more", x.accepts(0, 0x3634 << 4 | letter), has ? 1 : 0);
        }
    }

    /** "For STRIP and FOLD the language is widened before, if its size is above 8": quotes and one a. */
    private static void strips(int letters) {
        TaintScanner x = new TaintScanner();
        Lines.addLetters(x, 0, 3, QUOTE, letters - 1);
        x.set(1, 0x1);
        x.join(0, 0, 1);
        x.apply(1, 0, STRIP);
        x.sink(1);
        x.sink(0);
        x.analyse();
        boolean wide = letters + 2 > 8;
        String what = " of size " + (letters + 2);
        CHECKS.same("13 STRIP" + what, x.size(0), wide ? 2 : 3);
        CHECKS.same("14 STRIP, a" + what, x.accepts(0, 0x1), 1);
        CHECKS.same("14 STRIP, aa" + what, x.accepts(0, 0x11), wide ? 1 : 0);
        CHECKS.same("14 STRIP, the empty word" + what, x.accepts(0, 0), wide ? 1 : 0);
        CHECKS.same("14 STRIP, a quote" + what, x.accepts(0, 0x5), 0);
        CHECKS.same("13 STRIP leaves as it is one" + what, x.size(1), letters + 2);
        CHECKS.same("14 STRIP leaves as it is one" + what, x.accepts(1, 0x1), 0);
    }

    private static void folds(int letters) {
        TaintScanner x = new TaintScanner();
        Lines.addLetters(x, 0, 3, ESCAPE, letters - 1);
        x.set(1, 0x1);
        x.join(0, 0, 1);
        x.apply(1, 0, FOLD);
        x.sink(1);
        x.sink(0);
        x.analyse();
        boolean wide = letters + 2 > 8;
        String what = " of size " + (letters + 2);
        long escapes = 0x7777777L >> 4 * (8 - letters);
        CHECKS.same("13 FOLD" + what, x.size(0), wide ? 2 : letters + 2);
        CHECKS.same("14 FOLD, escapes and b" + what, x.accepts(0, escapes << 4 | 3), 1);
        CHECKS.same("14 FOLD, escapes and a" + what, x.accepts(0, escapes << 4 | 1), 0);
        CHECKS.same("14 FOLD, b and an escape" + what, x.accepts(0, 0x37), wide ? 1 : 0);
        CHECKS.same("14 FOLD, a" + what, x.accepts(0, 0x1), 0);
        CHECKS.same("13 FOLD leaves as it is one" + what, x.size(1), letters + 2);
        CHECKS.same("14 FOLD leaves as it is one" + what, x.accepts(1, escapes << 4 | 1), 1);
    }

    /** GUARD does not widen before, whatever the size. */
    private static void guards(int letters) {
        TaintScanner x = new TaintScanner();
        Lines.addLetters(x, 0, 3, QUOTE, letters - 1);
        x.set(1, 0x1);
        x.join(0, 0, 1);
        x.apply(1, 0, GUARD);
        x.sink(1);
        x.analyse();
        String what = " of size " + (letters + 2);
        CHECKS.same("13 GUARD" + what, x.size(0), 2 * letters + 1);
        long quotes = 0x75757575757575L >> 8 * (8 - letters);
        CHECKS.same("14 GUARD" + what, x.accepts(0, quotes << 4 | 1), 1);
        CHECKS.same("14 GUARD, a" + what, x.accepts(0, 0x1), 0);
    }

    /** The same with one variable for both. */
    private static void appliesIntoItself(int letters) {
        for (int f = 0; f < 3; f++) {
            TaintScanner x = new TaintScanner();
            Lines.addLetters(x, 2, 3, A, letters);
            x.apply(2, 2, f);
            x.sink(2);
            x.analyse();
            boolean wide = letters + 2 > 8 && f != GUARD;
            String what = ", function " + f + " into itself, of size " + (letters + 2);
            CHECKS.same("13" + what, x.size(0), wide ? 2 : letters + 2);
            CHECKS.same("14" + what, x.accepts(0, f == FOLD ? 0x3 : 0x1), wide ? 1 : 0);
        }
    }

    private static void appliesTo24() {
        for (int f = 0; f < 3; f++) {
            TaintScanner x = new TaintScanner();
            Lines.addLetters(x, 0, 3, A, 22);
            x.apply(1, 0, f);
            x.sink(1);
            x.sink(0);
            x.analyse();
            CHECKS.same("13 function " + f + " of size 24", x.size(0), f == GUARD ? 24 : 2);
            CHECKS.same("13 it stays as it was", x.size(1), 24);
        }
    }
}
