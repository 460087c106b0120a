import java.util.Random;

/**
 * All promises: random programs, and random calls with right and wrong arguments, are given to the
 * program and to a plain model of the document, and all answers are compared. The seeds are fixed.
 * No object gets more than the 512 calls that the document speaks of.
 */
public final class ModelTest {
    private static final Checks CHECKS = new Checks();
    private static final int MOST_CALLS = 512;
    /** A run and the questions about it. */
    private static final int CALLS_OF_RUN = 50;

    private final TaintScanner x = new TaintScanner();
    private final ModelScanner m = new ModelScanner();
    private final Random random;
    private final StringBuilder told = new StringBuilder();
    /** Whether lines mostly put short constants behind variables 0 and 1, so that sizes come near 24. */
    private final boolean growing;
    private final long[] passed = new long[20];
    private final int[] places = new int[20];
    private int calls;

    private ModelTest(long seed) {
        random = new Random(seed);
        growing = random.nextBoolean();
        told.append("seed ").append(seed).append(':');
    }

    public static void main(String[] args) {
        int programs = args.length > 0 ? Integer.parseInt(args[0]) : 4000;
        int base = args.length > 1 ? Integer.parseInt(args[1]) : 0;
        for (int seed = base; seed < base + programs && !CHECKS.hasWrong(); seed++) {
            ModelTest t = new ModelTest(seed);
            int prepared = t.growing ? 4 : t.below(4);
            t.prepare(prepared);
            t.addProgram(24 - prepared - t.below(t.growing ? 4 : 18));
            t.askAll();
        }
        for (int seed = base; seed < base + programs / 2 && !CHECKS.hasWrong(); seed++) {
            new ModelTest(1_000_000 + seed).callAtRandom();
        }
        CHECKS.close("ModelTest");
    }

    private int below(int n) {
        return random.nextInt(n);
    }

    private void same(String call, long got, long want) {
        told.append(' ').append(call).append('=').append(got);
        calls++;
        CHECKS.same(CHECKS.hasWrong() || got == want ? call : told.toString(), got, want);
    }

    // programs of right lines alone

    /** Gives the first variables more than the empty word, so that conditions on them may hold. */
    private void prepare(int variables) {
        for (int v = 0; v < variables; v++) {
            if (below(4) == 0) {
                same("get(" + v + ", 0)", x.get(v, 0), m.get(v, 0));
            } else {
                addSet(v, constant(1 + below(v < 2 ? 6 : 4)));
            }
        }
    }

    private void addProgram(int lines) {
        int open = 0;
        for (int i = 0; i < lines; i++) {
            int left = lines - i;
            if (open > 0 && (left <= open || below(6) == 0)) {
                same("end()", x.end(), m.end());
                open--;
            } else if (open < 3 && left > open + 2 && below(5) == 0) {
                addBlock();
                open++;
            } else if (open > 0 && left > open && below(8) == 0) {
                same("other()", x.other(), m.other());
            } else {
                addPlain();
            }
        }
        for (int i = 0; i < open; i++) {
            same("end()", x.end(), m.end());
        }
    }

    private void addBlock() {
        int v = below(4);
        int condition = below(3);
        int symbol = 1 + below(4);
        if (below(3) > 0) {
            same("loop(" + v + ", " + condition + ", " + symbol + ")", x.loop(v, condition, symbol), m.loop(v, condition, symbol));
        } else {
            same("when(" + v + ", " + condition + ", " + symbol + ")", x.when(v, condition, symbol), m.when(v, condition, symbol));
        }
    }

    private void addPlain() {
        int v = below(4);
        int a = below(4);
        int b = below(4);
        int kind = below(20);
        if (growing && kind < 11) {
            v = a = below(2);
            b = 2 + below(2);
            kind = 6;
        } else if (growing && kind < 15) {
            addSet(2 + below(2), constant(1 + below(4)));
            return;
        }
        if (kind < 4) {
            addSet(v, constant(below(7)));
        } else if (kind < 6) {
            int input = below(3);
            same("get(" + v + ", " + input + ")", x.get(v, input), m.get(v, input));
        } else if (kind < 13) {
            same("join(" + v + ", " + a + ", " + b + ")", x.join(v, a, b), m.join(v, a, b));
        } else if (kind < 17) {
            int f = below(3);
            same("apply(" + v + ", " + a + ", " + f + ")", x.apply(v, a, f), m.apply(v, a, f));
        } else {
            same("sink(" + v + ")", x.sink(v), m.sink(v));
        }
    }

    private void addSet(int v, int constant) {
        same("set(" + v + ", " + constant + ")", x.set(v, constant), m.set(v, constant));
    }

    private int constant(int length) {
        int constant = 0;
        for (int i = 0; i < length; i++) {
            constant = constant << 4 | 1 + below(4);
        }
        return constant;
    }

    private long word(int length) {
        long word = 0;
        for (int i = 0; i < length; i++) {
            word = word << 4 | 1 + below(8);
        }
        return word;
    }

    private void askAll() {
        same("analyse()", x.analyse(), m.analyse());
        for (int i = -1; i < 25; i++) {
            same("rounds(" + i + ")", x.rounds(i), m.rounds(i));
        }
        for (int k = -1; k < 7; k++) {
            same("size(" + k + ")", x.size(k), m.size(k));
            askWitness(k);
            for (int i = 0; i < 12; i++) {
                accept(k, word(below(i / 2 + 2)));
            }
        }
        while (calls + CALLS_OF_RUN + 40 <= MOST_CALLS) {
            give(below(3), constant(below(7)));
            run(below(2) == 0 ? 1 + below(40) : 1 + below(1000));
            passedWordsAreAccepted();
        }
    }

    /** To its end, and behind that. */
    private void askWitness(int k) {
        same("witness(" + k + ", -1)", x.witness(k, -1), m.witness(k, -1));
        int letter = 1;
        for (int i = 0; i < 30 && letter > 0; i++) {
            letter = x.witness(k, i);
            same("witness(" + k + ", " + i + ")", letter, m.witness(k, i));
        }
        same("witness(" + k + ", 100)", x.witness(k, 100), m.witness(k, 100));
    }

    private void accept(int k, long word) {
        same("accepts(" + k + ", " + word + ")", x.accepts(k, word), m.accepts(k, word));
    }

    private void give(int input, int word) {
        same("give(" + input + ", " + word + ")", x.give(input, word) ? 1 : 0, m.give(input, word) ? 1 : 0);
    }

    private void run(int steps) {
        same("run(" + steps + ")", x.run(steps), m.run(steps));
        same("ended()", x.ended(), m.ended());
        for (int j = -1; j < 22; j++) {
            long word = x.passed(j);
            int place = x.place(j);
            same("passed(" + j + ")", word, m.passed(j));
            same("place(" + j + ")", place, m.place(j));
            if (j >= 0 && j < passed.length) {
                passed[j] = word;
                places[j] = place;
            }
        }
    }

    /** A sink's language is to have all words that may come there. */
    private void passedWordsAreAccepted() {
        for (int j = 0; j < passed.length && passed[j] >= 0; j++) {
            same("accepts(" + places[j] + ", " + passed[j] + ")", x.accepts(places[j], passed[j]), 1);
            same("attack(" + passed[j] + ")", x.attack(passed[j]), m.attack(passed[j]));
        }
    }

    // any calls

    private int nearVariable() {
        return below(12) == 0 ? below(2) * 6 - 1 : below(5);
    }

    private int nearConstant() {
        switch (below(8)) {
            case 0:
                return random.nextInt();
            case 1:
                return constant(7);
            case 2:
                return constant(below(7)) + (1 << 4 * below(7));
            default:
                return constant(below(7));
        }
    }

    private long nearWord() {
        switch (below(6)) {
            case 0:
                return random.nextLong();
            case 1:
                return word(16);
            case 2:
                return word(15);
            case 3:
                return word(below(15)) + (1L << 4 * below(16));
            default:
                return word(below(8));
        }
    }

    private void callAtRandom() {
        while (calls + CALLS_OF_RUN <= MOST_CALLS && !CHECKS.hasWrong()) {
            int kind = below(22);
            if (kind < 12) {
                callForLine(kind);
            } else {
                callForAnswer(kind);
            }
        }
    }

    private void callForLine(int kind) {
        int v = nearVariable();
        int a = nearVariable();
        int b = nearVariable();
        int c = below(5) - (below(3) == 0 ? 1 : 0);
        int s = below(6);
        switch (kind) {
            case 0 -> addSet(v, nearConstant());
            case 1 -> same("get(" + v + ", " + c + ")", x.get(v, c), m.get(v, c));
            case 2, 3 -> same("join(" + v + ", " + a + ", " + b + ")", x.join(v, a, b), m.join(v, a, b));
            case 4 -> same("apply(" + v + ", " + a + ", " + c + ")", x.apply(v, a, c), m.apply(v, a, c));
            case 5 -> same("sink(" + v + ")", x.sink(v), m.sink(v));
            case 6 -> same("when(" + v + ", " + c + ", " + s + ")", x.when(v, c, s), m.when(v, c, s));
            case 7 -> same("loop(" + v + ", " + c + ", " + s + ")", x.loop(v, c, s), m.loop(v, c, s));
            case 8 -> same("other()", x.other(), m.other());
            case 9, 10 -> same("end()", x.end(), m.end());
            default -> {
                if (below(12) == 0) {
                    same("clear()", x.clear(), m.clear());
                }
            }
        }
    }

    private void callForAnswer(int kind) {
        int k = below(8) - 1;
        switch (kind) {
            case 12, 13 -> same("analyse()", x.analyse(), m.analyse());
            case 14 -> same("size(" + k + ")", x.size(k), m.size(k));
            case 15 -> accept(k, nearWord());
            case 16 -> {
                int i = below(9) - 1;
                same("witness(" + k + ", " + i + ")", x.witness(k, i), m.witness(k, i));
            }
            case 17 -> {
                int i = below(27) - 1;
                same("rounds(" + i + ")", x.rounds(i), m.rounds(i));
            }
            case 18 -> give(below(5) - 1, nearConstant());
            case 19, 20 -> run(below(4) == 0 ? below(3) * 501 - 1 + below(2) : below(60));
            default -> {
                long word = nearWord();
                same("attack(" + word + ")", x.attack(word), m.attack(word));
            }
        }
    }
}
