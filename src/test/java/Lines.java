/** Lines that several tests add, to make a variable a language of a size. */
final class Lines {
    private static final int A = 1;
    private static final int B = 2;
    private static final int ESCAPE = 4;

    private Lines() {
    }

    /** Adds SETs and JOINs that make variable v, by variable part, some letters of a symbol: of n the size is n + 2. */
    static void addLetters(TaintScanner x, int v, int part, int symbol, int letters) {
        int six = Math.min(letters, 6);
        x.set(v, symbol * (0x111111 >> 4 * (6 - six)));
        int rest = letters - six;
        if (rest >= 4) {
            x.set(part, symbol * 0x1111);
        }
        for (; rest >= 4; rest -= 4) {
            x.join(v, v, part);
        }
        if (rest > 0) {
            x.set(part, symbol * (0x1111 >> 4 * (4 - rest)));
            x.join(v, v, part);
        }
    }

    /** Adds four lines that make variable v one of two constants; variable 4 must be an input that may have a b or not. */
    static void addEither(TaintScanner x, int v, int one, int another) {
        x.set(v, one);
        x.when(4, 0, B);
        x.set(v, another);
        x.end();
    }

    /** Adds three lines that make variable v, empty before, all words of the letters of variable part. */
    static void addAllWords(TaintScanner x, int v, int part) {
        x.loop(4, 0, A);
        x.join(v, v, part);
        x.end();
    }

    /** Adds lines that make variable 0 all words of up to (size - 1) / 2 letters a or b, behind a symbol if size is even. */
    static void addUpTo(TaintScanner x, int size, int symbol) {
        x.when(4, 0, B);
        x.set(1, A);
        x.end();
        x.when(4, 0, ESCAPE);
        x.set(1, B);
        x.end();
        if (size % 2 == 0) {
            x.set(0, symbol);
        }
        for (int i = 0; i < (size - 1) / 2; i++) {
            x.join(0, 0, 1);
        }
    }
}
