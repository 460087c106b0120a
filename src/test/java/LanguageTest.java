import java.util.regex.Pattern;

/**
 * "Terms", for promises 12 to 14: the languages that lines, conditions and their contraries make, each
 * written as a regular expression of letters' numbers and compared for every word of at most four letters.
 */
public final class LanguageTest {
    private static final Checks CHECKS = new Checks();
    private static final int MOST_CALLS = 512;
    private static final int LONGEST = 4;
    private static final int GUARD = 0;
    private static final int STRIP = 1;
    private static final int FOLD = 2;

    private interface Builder {
        void build(TaintScanner x);
    }

    private final String name;
    private final Builder builder;
    private final Pattern words;
    private TaintScanner scanner;
    private int calls = MOST_CALLS;

    private LanguageTest(String name, Builder builder, String words) {
        this.name = name;
        this.builder = builder;
        this.words = Pattern.compile(words);
    }

    public static void main(String[] args) {
        constantsAndInputs();
        functions();
        for (int symbol = 1; symbol <= 4; symbol++) {
            conditionsOfInputs(symbol);
            conditionsOfMore(symbol);
        }
        waysAndLoops();
        CHECKS.close("LanguageTest");
    }

    /** Sink 0 of the program has the words that the expression matches, and no others. */
    private static void sink(String name, String words, Builder builder) {
        new LanguageTest(name, builder, words).compare(0, "");
    }

    private void compare(long word, String text) {
        CHECKS.same("14 " + name + ", word " + text, accepts(word), words.matcher(text).matches() ? 1 : 0);
        for (int letter = 1; letter <= 8 && text.length() < LONGEST; letter++) {
            compare(word << 4 | letter, text + letter);
        }
    }

    /** Asks a new object when the last one has had its calls; a program has at most 24 lines. */
    private int accepts(long word) {
        if (calls == MOST_CALLS) {
            scanner = new TaintScanner();
            builder.build(scanner);
            scanner.analyse();
            calls = 30;
        }
        calls++;
        return scanner.accepts(0, word);
    }

    private static void constantsAndInputs() {
        sink("nothing yet", "", x -> x.sink(3));
        sink("abqe", "1357", x -> {
            x.set(0, 0x1234);
            x.sink(0);
        });
        sink("an input", "[2468]*", x -> {
            x.get(0, 2);
            x.sink(0);
        });
        sink("an input and ab", "[2468]*13", x -> {
            x.get(0, 0);
            x.set(1, 0x12);
            x.join(0, 0, 1);
            x.sink(0);
        });
        sink("a quote, an input, a quote, an input", "5[2468]*5[2468]*", x -> {
            x.get(0, 0);
            x.set(1, 0x3);
            x.join(2, 1, 0);
            x.join(2, 2, 2);
            x.sink(2);
        });
        sink("the empty word is nothing to JOIN", "31", x -> {
            x.set(0, 0x21);
            x.join(0, 1, 0);
            x.join(0, 0, 1);
            x.sink(0);
        });
    }

    private static void functions() {
        String[] inputs = {"([24]|8[68])*", "[248]*", "[468]*"};
        String[] behind = {"([24]|8[68])*751", "[248]*1", "[468]*53"};
        String[] before = {"7513([24]|8[68])*", "13[248]*", "533[468]*"};
        for (int f = GUARD; f <= FOLD; f++) {
            int function = f;
            sink("function " + f + " of an input", inputs[f], x -> {
                x.get(0, 0);
                x.apply(1, 0, function);
                x.sink(1);
            });
            sink("function " + f + " of an input and qa", behind[f], x -> {
                x.get(0, 0);
                x.set(1, 0x31);
                x.join(0, 0, 1);
                x.apply(0, 0, function);
                x.sink(0);
            });
            sink("function " + f + " of qab and an input", before[f], x -> {
                x.get(0, 0);
                x.set(1, 0x312);
                x.join(0, 1, 0);
                x.apply(0, 0, function);
                x.sink(0);
            });
        }
        sink("STRIP leaves the empty word", "", x -> {
            x.set(0, 0x333333);
            x.apply(0, 0, STRIP);
            x.sink(0);
        });
        sink("GUARD of GUARD", "7775", x -> {
            x.set(0, 0x3);
            x.apply(0, 0, GUARD);
            x.apply(0, 0, GUARD);
            x.sink(0);
        });
    }

    /** HAS, BEGINS, ENDS of an input, and their contraries. */
    private static void conditionsOfInputs(int symbol) {
        String it = "" + 2 * symbol;
        String others = "[2468&&[^" + it + "]]";
        String[] holding = {"[2468]*" + it + "[2468]*", it + "[2468]*", "[2468]*" + it};
        String[] contrary = {others + "*", "|" + others + "[2468]*", "|[2468]*" + others};
        for (int condition = 0; condition < 3; condition++) {
            int c = condition;
            String what = "condition " + c + " of symbol " + symbol;
            sink(what, holding[c], x -> {
                x.get(0, 0);
                x.when(0, c, symbol);
                x.sink(0);
                x.end();
            });
            sink(what + ", contrary", contrary[c], x -> {
                x.get(0, 0);
                x.when(0, c, symbol);
                x.other();
                x.sink(0);
                x.end();
            });
            sink(what + ", behind LOOP", contrary[c], x -> {
                x.get(0, 0);
                x.loop(0, c, symbol);
                x.end();
                x.sink(0);
            });
            sink(what + ", in LOOP", holding[c], x -> {
                x.get(0, 0);
                x.loop(0, c, symbol);
                x.sink(0);
                x.end();
            });
            sink(what + ", behind END", "[2468]*", x -> {
                x.get(0, 0);
                x.when(0, c, symbol);
                x.end();
                x.sink(0);
            });
        }
    }

    /** The same with letters that are not tainted before and behind: all words of all letters. */
    private static void conditionsOfMore(int symbol) {
        String it = "[" + (2 * symbol - 1) + 2 * symbol + "]";
        String others = "[1-8&&[^" + (2 * symbol - 1) + 2 * symbol + "]]";
        String[] holding = {".*" + it + ".*", it + ".*", ".*" + it};
        String[] contrary = {others + "*", "|" + others + ".*", "|.*" + others};
        for (int condition = 0; condition < 3; condition++) {
            int c = condition;
            String what = "condition " + c + " of symbol " + symbol + " of all words";
            sink(what, holding[c], x -> {
                addAllWords(x);
                x.when(0, c, symbol);
                x.sink(0);
                x.end();
            });
            sink(what + ", contrary", contrary[c], x -> {
                addAllWords(x);
                x.when(0, c, symbol);
                x.other();
                x.sink(0);
                x.end();
            });
        }
    }

    /** JOIN widens an input with eight letters behind it to all words of all letters. */
    private static void addAllWords(TaintScanner x) {
        x.get(1, 0);
        x.set(2, 0x1234);
        x.join(1, 1, 2);
        x.join(1, 1, 2);
        x.join(0, 0, 1);
    }

    private static void waysAndLoops() {
        sink("each way is gone through from the languages before", "|1|33", x -> {
            x.get(4, 0);
            x.when(4, 0, 1);
            x.set(0, 0x1);
            x.other();
            x.join(1, 1, 0);
            x.when(4, 0, 2);
            x.set(0, 0x22);
            x.end();
            x.end();
            x.join(0, 0, 1);
            x.sink(0);
        });
        sink("two conditions one in another", "4[2468]*8|48", x -> {
            x.get(0, 0);
            x.when(0, 1, 2);
            x.when(0, 2, 4);
            x.sink(0);
            x.end();
            x.end();
        });
        sink("a condition in the contrary of another", "|[68]|[68][2468]*[268]", x -> {
            x.get(0, 0);
            x.when(0, 1, 1);
            x.other();
            x.when(0, 1, 2);
            x.other();
            x.when(0, 2, 2);
            x.other();
            x.sink(0);
            x.end();
            x.end();
            x.end();
        });
        sink("a and then b, round by round", "[13]*", x -> {
            x.get(4, 0);
            x.set(1, 0x2);
            x.set(0, 0x1);
            x.loop(4, 0, 1);
            x.join(0, 0, 1);
            x.end();
            x.sink(0);
        });
        sink("once or not at all", "|13", x -> {
            x.get(4, 0);
            x.loop(4, 0, 1);
            x.set(0, 0x12);
            x.end();
            x.sink(0);
        });
    }
}
