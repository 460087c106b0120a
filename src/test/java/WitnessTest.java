/** Promises 12, 15 and 22: which attack is the witness, its letters to its end and behind it, and safe sinks. */
public final class WitnessTest {
    private static final Checks CHECKS = new Checks();
    private static final int HAS = 0;

    public static void main(String[] args) {
        oneWord();
        ofTwoWords();
        ofInputs();
        inQuotes();
        withoutAttack();
        longest();
        lettersAtTheirBounds();
        countsUnsafeSinks();
        everyAttackOfOneOrTwoLetters();
        CHECKS.close("WitnessTest");
    }

    /** The witness of a sink as a word of letters; it must be followed by 0. */
    private static long witness(TaintScanner x, int k) {
        long word = 0;
        for (int i = 0; i < 15; i++) {
            int letter = x.witness(k, i);
            if (letter <= 0) {
                return letter == 0 ? word : -1;
            }
            word = word << 4 | letter;
        }
        return -2;
    }

    private static void oneWord() {
        int[] constants = {0, 0x1, 0x3, 0x4, 0x33, 0x34, 0x343, 0x3443, 0x3433, 0x333, 0x43, 0x111113, 0x333333};
        long[] witnesses = {-1, -1, 0x5, -1, -1, 0x57, 0x575, -1, -1, 0x555, 0x75, 0x111115, -1};
        for (int i = 0; i < constants.length; i++) {
            TaintScanner x = new TaintScanner();
            x.set(2, constants[i]);
            x.sink(2);
            String what = Integer.toHexString(constants[i]);
            CHECKS.same("12 constant " + what, x.analyse(), witnesses[i] == -1 ? 0 : 1);
            CHECKS.same("15 constant " + what, witness(x, 0), witnesses[i]);
        }
    }

    /** One of two constants, or both in the other order. */
    private static long ofTwo(int one, int another) {
        long[] found = new long[2];
        for (int order = 0; order < 2; order++) {
            TaintScanner x = new TaintScanner();
            x.get(4, 0);
            x.set(0, order == 0 ? one : another);
            x.when(4, HAS, 1);
            x.set(0, order == 0 ? another : one);
            x.end();
            x.sink(0);
            x.analyse();
            found[order] = witness(x, 0);
        }
        CHECKS.same("15 the order of " + one + " and " + another + " is nothing", found[0], found[1]);
        return found[0];
    }

    /** "The shortest one, of several the one that is least, compared letter by letter, from the first on". */
    private static void ofTwoWords() {
        CHECKS.same("15 the shorter one, though it is greater", ofTwo(0x3, 0x13), 0x5);
        CHECKS.same("15 the shorter one of three and four", ofTwo(0x443, 0x1113), 0x775);
        CHECKS.same("15 the shorter one of five and six", ofTwo(0x44443, 0x111113), 0x77775);
        CHECKS.same("15 the first letter is less", ofTwo(0x13, 0x31), 0x15);
        CHECKS.same("15 the first letter counts before the last", ofTwo(0x2413, 0x1423), 0x1735);
        CHECKS.same("15 the second letter is less", ofTwo(0x213, 0x223), 0x315);
        CHECKS.same("15 the last letter is less", ofTwo(0x31, 0x32), 0x51);
        CHECKS.same("15 a quote is less than an escape", ofTwo(0x333, 0x343), 0x555);
        CHECKS.same("15 the least is no attack", ofTwo(0x11, 0x23), 0x35);
        CHECKS.same("15 the shortest is no attack", ofTwo(0x1, 0x4413), 0x7715);
        CHECKS.same("15 neither is", ofTwo(0x1, 0x33), -1);
        CHECKS.same("15 with the empty word", ofTwo(0, 0x413), 0x715);
    }

    /** All tainted words without some symbols: the least letter that is left. */
    private static void ofInputs() {
        long[] witnesses = {0x2, 0x4, 0x6, 0x8, -1};
        for (int without = 0; without <= 4; without++) {
            TaintScanner x = new TaintScanner();
            x.get(0, 0);
            for (int symbol = 1; symbol <= without; symbol++) {
                x.loop(0, HAS, symbol);
                x.end();
            }
            x.sink(0);
            CHECKS.same("12 without " + without, x.analyse(), without < 4 ? 1 : 0);
            CHECKS.same("15 without " + without, witness(x, 0), witnesses[without]);
            CHECKS.same("13 without " + without, x.size(0), 2);
        }
    }

    /** A quote, what a function makes of an input, a quote. */
    private static void inQuotes() {
        long[] witnesses = {-1, 0x585, 0x565};
        for (int f = 0; f < 3; f++) {
            TaintScanner x = new TaintScanner();
            x.get(0, 0);
            x.apply(0, 0, f);
            x.set(1, 0x3);
            x.join(0, 1, 0);
            x.join(0, 0, 1);
            x.sink(0);
            CHECKS.same("12 function " + f, x.analyse(), f == 0 ? 0 : 1);
            CHECKS.same("15 function " + f, witness(x, 0), witnesses[f]);
        }
        TaintScanner x = new TaintScanner();
        x.get(0, 0);
        x.apply(0, 0, 1);
        x.loop(0, HAS, 4);
        x.end();
        x.set(1, 0x3);
        x.join(0, 1, 0);
        x.join(0, 0, 1);
        x.sink(0);
        CHECKS.same("12 neither quote nor escape", x.analyse(), 0);
    }

    /** "NONE when it is safe": whatever the letter. */
    private static void withoutAttack() {
        TaintScanner x = new TaintScanner();
        x.sink(0);
        x.set(0, 0x3113);
        x.sink(0);
        x.when(1, HAS, 1);
        x.sink(0);
        x.end();
        CHECKS.same("12 the empty word, a safe one, none", x.analyse(), 0);
        for (int k = 0; k < 3; k++) {
            for (int i : new int[] {Integer.MIN_VALUE, -1, 0, 1, 4, Integer.MAX_VALUE}) {
                CHECKS.same("15 safe sink " + k + ", letter " + i, x.witness(k, i), -1);
            }
        }
    }

    /** All words of quotes, and 22 b behind: the size is 24, and the witness has 23 letters. */
    private static void longest() {
        TaintScanner x = new TaintScanner();
        x.get(4, 0);
        x.set(1, 0x3);
        x.loop(4, HAS, 1);
        x.join(0, 0, 1);
        x.end();
        x.set(1, 0x2222);
        for (int i = 0; i < 5; i++) {
            x.join(0, 0, 1);
        }
        x.set(1, 0x22);
        x.join(0, 0, 1);
        x.sink(0);
        CHECKS.same("12 a long one", x.analyse(), 1);
        CHECKS.same("13 a long one", x.size(0), 24);
        for (int i = 0; i < 60; i++) {
            CHECKS.same("15 a long one, letter " + i, x.witness(0, i), i == 0 ? 5 : i < 23 ? 3 : 0);
        }
        CHECKS.same("15 far behind a long one", x.witness(0, Integer.MAX_VALUE), 0);
    }

    /**
     * "Letter i (from 0); 0 behind its end; NONE when i is below 0": witnesses of six letters to one,
     * told by one object, so that longer ones might have been left.
     */
    private static void lettersAtTheirBounds() {
        TaintScanner x = new TaintScanner();
        for (int length = 6; length >= 1; length--) {
            x.clear();
            x.set(0, 0x444443 & (1 << 4 * length) - 1);
            x.sink(0);
            x.analyse();
            String what = "15 of " + length + ", letter ";
            for (int i : new int[] {Integer.MIN_VALUE, Integer.MIN_VALUE + 1, -2, -1}) {
                CHECKS.same(what + i, x.witness(0, i), -1);
            }
            for (int i = 0; i < 10; i++) {
                CHECKS.same(what + i, x.witness(0, i), i < length - 1 ? 7 : i == length - 1 ? 5 : 0);
            }
            for (int i : new int[] {15, 16, 95, 96, 97, 1000, Integer.MAX_VALUE - 1, Integer.MAX_VALUE}) {
                CHECKS.same(what + i, x.witness(0, i), 0);
            }
            for (int k : new int[] {Integer.MIN_VALUE, -1, 1, 5, 6, Integer.MAX_VALUE}) {
                CHECKS.same("15 no sink " + k, x.witness(k, 0), -1);
                CHECKS.same("15 no sink " + k + ", letter -1", x.witness(k, -1), -1);
            }
        }
    }

    /** From none to all of six sinks. */
    private static void countsUnsafeSinks() {
        for (int unsafe = 0; unsafe <= 6; unsafe++) {
            TaintScanner x = new TaintScanner();
            x.get(1, 0);
            for (int k = 0; k < 6; k++) {
                x.sink(k < unsafe ? 1 : 0);
            }
            CHECKS.same("12 unsafe", x.analyse(), unsafe);
            for (int k = 0; k < 6; k++) {
                CHECKS.same("15 of " + unsafe + ", sink " + k, x.witness(k, 0), k < unsafe ? 2 : -1);
            }
        }
    }

    /** A sink is unsafe when its one word is an attack, and no other one is its witness. */
    private static void everyAttackOfOneOrTwoLetters() {
        for (int first = 0; first <= 4; first++) {
            for (int second = 1; second <= 4; second++) {
                TaintScanner x = new TaintScanner();
                int constant = first << 4 | second;
                long word = (first == 0 ? 0 : 2 * first - 1) << 4 | 2 * second - 1;
                x.set(0, constant);
                x.sink(0);
                CHECKS.same("12 constant " + constant, x.analyse(), x.attack(word));
                CHECKS.same("15 constant " + constant, witness(x, 0), x.attack(word) == 1 ? word : -1);
            }
        }
    }
}
