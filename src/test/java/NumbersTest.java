/**
 * "Terms", for promises 2, 14, 17 and 22: which numbers are constants and words. Each digit at each
 * place from its lowest to its highest, one digit too many, and the lowest and highest numbers.
 */
public final class NumbersTest {
    private static final Checks CHECKS = new Checks();

    public static void main(String[] args) {
        constantsDigitByDigit();
        constantsByLength();
        constantsFarOff();
        wordsDigitByDigit();
        wordsByLength();
        wordsFarOff();
        CHECKS.close("NumbersTest");
    }

    /** The letters of a constant as a word; at most six digits. */
    private static long letters(int constant, int taint) {
        long word = 0;
        for (int place = 5; place >= 0; place--) {
            int symbol = constant >> 4 * place & 15;
            word = word << 4 | (symbol == 0 ? 0 : 2 * symbol - 1 + taint);
        }
        return word;
    }

    private static void constant(int number, boolean right) {
        String what = " constant 0x" + Integer.toHexString(number);
        TaintScanner x = new TaintScanner();
        x.give(1, 0x32);
        CHECKS.same("2" + what, x.set(3, number), right ? 1 : -1);
        CHECKS.same("17" + what, x.give(1, number) ? 1 : 0, right ? 1 : 0);
        x.sink(3);
        x.get(2, 1);
        x.sink(2);
        x.run(4);
        CHECKS.same("2 what" + what + " sets", x.passed(0), right ? letters(number, 0) : 0);
        CHECKS.same("17 what" + what + " gives", x.passed(1), right ? letters(number, 1) : 0x64);
        x.analyse();
        CHECKS.same("13 size of" + what, x.size(0), right ? Integer.toHexString(number).replace("0", "").length() + 2 : 2);
        CHECKS.same("14 the word of" + what, x.accepts(0, x.passed(0)), 1);
    }

    private static void constantsDigitByDigit() {
        for (int place = 0; place < 6; place++) {
            int rest = 0x324132 & ~(15 << 4 * place);
            for (int digit = 0; digit < 16; digit++) {
                boolean shorter = place == 5 && digit == 0;
                constant(rest | digit << 4 * place, shorter || digit >= 1 && digit <= 4);
            }
        }
    }

    /** "A number of at most six digits": of each length the least, the greatest, and their neighbours. */
    private static void constantsByLength() {
        int ones = 0;
        for (int length = 0; length <= 8; length++) {
            boolean right = length <= 6;
            constant(ones, right);
            constant(4 * ones, right);
            if (length > 0) {
                constant(ones - 1, length == 1);
                constant(4 * ones + 1, false);
                constant(ones << 4, false);
            }
            ones = ones << 4 | 1;
        }
    }

    private static void constantsFarOff() {
        int[] none = {Integer.MIN_VALUE, Integer.MIN_VALUE + 1, -0x111111, -0x444444, -4, -1, Integer.MAX_VALUE, Integer.MAX_VALUE - 1,
            0x1000000, 0x1111111, 0x01000001, 0x10000001, 0x80000001, 0x81111111, 0xF1111111, 0xFF444444};
        for (int number : none) {
            constant(number, false);
        }
    }

    /** Sink 0 gets all words of all letters (by JOIN's widening), sink 1 all words of tainted letters. */
    private static TaintScanner withAllWords() {
        TaintScanner x = new TaintScanner();
        x.get(1, 0);
        x.set(2, 0x1234);
        x.join(3, 1, 2);
        x.join(3, 3, 2);
        x.join(0, 0, 3);
        x.sink(0);
        x.sink(1);
        x.analyse();
        CHECKS.same("13 all words of all letters", x.size(0), 1);
        return x;
    }

    private static void word(TaintScanner x, long number, boolean right) {
        String text = number == 0 ? "" : Long.toHexString(number);
        String what = " word 0x" + text;
        boolean tainted = text.matches("[2468]*");
        CHECKS.same("14" + what, x.accepts(0, number), right ? 1 : -1);
        CHECKS.same("14 tainted" + what, x.accepts(1, number), right ? tainted ? 1 : 0 : -1);
        CHECKS.same("14 no sink for" + what, x.accepts(2, number), -1);
        CHECKS.same("22" + what, x.attack(number), right ? ModelScanner.isAttack(text) ? 1 : 0 : -1);
    }

    private static void wordsDigitByDigit() {
        for (int place = 0; place < 15; place++) {
            TaintScanner x = withAllWords();
            for (int digit = 0; digit < 16; digit++) {
                boolean right = digit >= 1 && digit <= 8 || place == 14 && digit == 0;
                word(x, 0x517517517517515L & ~(15L << 4 * place) | (long) digit << 4 * place, right);
                word(x, 0x222222222222222L & ~(15L << 4 * place) | (long) digit << 4 * place, right);
            }
        }
    }

    /** "A WORD of at most 15 letters": of each length the least, the greatest, and their neighbours. */
    private static void wordsByLength() {
        TaintScanner x = withAllWords();
        long ones = 0;
        for (int length = 0; length <= 16; length++) {
            boolean right = length <= 15;
            word(x, ones, right);
            word(x, 2 * ones, right);
            word(x, 8 * ones, right);
            if (length > 0) {
                word(x, ones - 1, length == 1);
                word(x, 8 * ones + 1, false);
            }
            ones = ones << 4 | 1;
        }
    }

    private static void wordsFarOff() {
        TaintScanner x = withAllWords();
        long[] none = {Long.MIN_VALUE, Long.MIN_VALUE + 1, -1, -2, -0x111111111111111L, Long.MAX_VALUE, Long.MAX_VALUE - 1,
            1L << 60, 1L << 60 | 1, 0x8000000000000001L, 0xF111111111111111L, 0x100000000L, 0x100000001L, 0xFFFFFFFF00000001L};
        for (long number : none) {
            word(x, number, false);
        }
        // As int it would be a word, as long it is another one.
        CHECKS.same("22 more than an int, all outside", x.attack(0x711111111L), 0);
        CHECKS.same("22 more than an int, a tainted one first", x.attack(0x211111111L), 1);
    }
}
