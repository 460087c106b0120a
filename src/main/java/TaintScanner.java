import java.util.Arrays;

/**
 * An analyser of small programs that put strings together from constants and from input, and hand
 * them to sinks, and an interpreter that runs the same programs.
 *
 * <p>All rows are made in the constructor and used again: no later call makes an object.
 */
public final class TaintScanner {
    public static final int NONE = -1;

    private static final int VARIABLES = 5;
    private static final int INPUTS = 3;
    private static final int SYMBOLS = 4;
    private static final int LETTERS = 8;

    private final Program program;
    private final Analysis analysis;
    private final Interpreter interpreter;

    public TaintScanner() {
        program = new Program();
        analysis = new Analysis();
        interpreter = new Interpreter();
    }

    public int set(int v, int constant) {
        if (!isVariable(v) || !Words.isConstant(constant)) {
            return NONE;
        }
        return addLine(Program.SET, v, constant, 0);
    }

    public int get(int v, int input) {
        if (!isVariable(v) || !isInput(input)) {
            return NONE;
        }
        return addLine(Program.GET, v, input, 0);
    }

    public int join(int v, int a, int b) {
        if (!isVariable(v) || !isVariable(a) || !isVariable(b)) {
            return NONE;
        }
        return addLine(Program.JOIN, v, a, b);
    }

    public int apply(int v, int a, int f) {
        if (!isVariable(v) || !isVariable(a) || f < Words.GUARD || f > Words.FOLD) {
            return NONE;
        }
        return addLine(Program.APPLY, v, a, f);
    }

    public int sink(int v) {
        if (!isVariable(v) || program.sinks == Program.MOST_SINKS) {
            return NONE;
        }
        return addLine(Program.SINK, v, program.sinks, 0);
    }

    public int when(int v, int condition, int symbol) {
        return addOpening(Program.WHEN, v, condition, symbol);
    }

    public int other() {
        if (program.innermost() != Program.WHEN) {
            return NONE;
        }
        return addLine(Program.OTHER, 0, 0, 0);
    }

    public int loop(int v, int condition, int symbol) {
        return addOpening(Program.LOOP, v, condition, symbol);
    }

    public int end() {
        if (program.open == 0) {
            return NONE;
        }
        return addLine(program.innermost() == Program.LOOP ? Program.END_LOOP : Program.END_WHEN, 0, 0, 0);
    }

    public int clear() {
        int lines = program.count;
        program.empty();
        analysis.forget();
        return lines;
    }

    public int analyse() {
        if (program.open > 0) {
            return NONE;
        }
        // A valid analysis is one of these very lines: making it again would bring the same.
        if (!analysis.made) {
            analysis.make(program);
        }
        return analysis.unsafe;
    }

    public int size(int k) {
        return hasSink(k) ? analysis.sinks[k].states : NONE;
    }

    public int accepts(int k, long word) {
        if (!hasSink(k) || !Words.isWord(word)) {
            return NONE;
        }
        return analysis.sinks[k].contains(word) ? 1 : 0;
    }

    public int witness(int k, int i) {
        if (!hasSink(k) || !analysis.isUnsafe(k) || i < 0) {
            return NONE;
        }
        return analysis.witnessLetter(k, i);
    }

    public int rounds(int i) {
        if (!analysis.made || i < 0 || i >= program.count || program.kind[i] != Program.LOOP) {
            return NONE;
        }
        return analysis.rounds[i];
    }

    public boolean give(int input, int word) {
        if (!isInput(input) || !Words.isConstant(word)) {
            return false;
        }
        interpreter.inputs[input] = word;
        return true;
    }

    public int run(int steps) {
        if (steps < 1 || steps > Interpreter.MOST_STEPS || program.open > 0) {
            return NONE;
        }
        return interpreter.start(program, steps);
    }

    public int ended() {
        return interpreter.ending;
    }

    public long passed(int j) {
        return interpreter.isKept(j) ? interpreter.words[j] : NONE;
    }

    public int place(int j) {
        return interpreter.isKept(j) ? interpreter.places[j] : NONE;
    }

    public int attack(long word) {
        if (!Words.isWord(word)) {
            return NONE;
        }
        return Words.isAttack(word) ? 1 : 0;
    }

    private int addOpening(int kind, int v, int condition, int symbol) {
        boolean holds = isVariable(v) && condition >= Words.HAS && condition <= Words.ENDS
                && symbol >= 1 && symbol <= SYMBOLS;
        if (!holds || program.open == Program.MOST_OPEN) {
            return NONE;
        }
        return addLine(kind, v, condition, symbol);
    }

    private int addLine(int kind, int v, int first, int second) {
        if (program.count == Program.MOST_LINES) {
            return NONE;
        }
        analysis.forget();
        return program.add(kind, v, first, second);
    }

    private boolean hasSink(int k) {
        return analysis.made && k >= 0 && k < program.sinks;
    }

    private static boolean isVariable(int v) {
        return v >= 0 && v < VARIABLES;
    }

    private static boolean isInput(int input) {
        return input >= 0 && input < INPUTS;
    }

    /** Words and constants as numbers, and what the functions, conditions and attacks are for them. */
    private static final class Words {
        static final int LONGEST = 15;
        static final int LONGEST_CONSTANT = 6;

        static final int QUOTE = 3;
        static final int ESCAPE = 4;

        static final int GUARD = 0;
        static final int STRIP = 1;
        static final int FOLD = 2;

        static final int HAS = 0;
        static final int BEGINS = 1;
        static final int ENDS = 2;

        static final int OUT = 0;
        static final int IN = 1;
        static final int BEHIND = 2;
        static final int WRONG = 3;
        static final int PLACES = 4;

        /** Stands for a word that would have more than 15 letters. */
        static final long OVERLONG = -1;

        static boolean isWord(long number) {
            return hasDigits(number, LONGEST, LETTERS);
        }

        static boolean isConstant(int number) {
            return hasDigits(number, LONGEST_CONSTANT, SYMBOLS);
        }

        private static boolean hasDigits(long number, int most, int highest) {
            long rest = number;
            for (int i = 0; i < most && rest != 0; i++) {
                int digit = (int) (rest & 15);
                if (digit < 1 || digit > highest) {
                    return false;
                }
                rest >>>= 4;
            }
            return rest == 0;
        }

        static int letter(int symbol, boolean tainted) {
            return tainted ? 2 * symbol : 2 * symbol - 1;
        }

        static int symbol(int letter) {
            return (letter + 1) / 2;
        }

        static boolean isTainted(int letter) {
            return letter % 2 == 0;
        }

        static int length(long word) {
            int length = 0;
            for (int i = 0; i < LONGEST; i++) {
                if (word >>> (4 * i) != 0) {
                    length++;
                }
            }
            return length;
        }

        /** Letter i from 0; 0 where the word has none. */
        static int letterAt(long word, int length, int i) {
            return i < 0 || i >= length ? 0 : (int) (word >>> (4 * (length - 1 - i))) & 15;
        }

        static long ofConstant(int constant, boolean tainted) {
            int length = length(constant);
            long word = 0;
            for (int i = 0; i < length; i++) {
                word = word << 4 | letter(letterAt(constant, length, i), tainted);
            }
            return word;
        }

        static long joined(long a, long b) {
            int behind = length(b);
            return length(a) + behind > LONGEST ? OVERLONG : a << (4 * behind) | b;
        }

        static long applied(long word, int function) {
            int length = length(word);
            long made = 0;
            for (int i = 0; i < length && made != OVERLONG; i++) {
                made = joined(made, image(letterAt(word, length, i), function));
            }
            return made;
        }

        /** The letters that a function makes of one letter, as a word. */
        static int image(int letter, int function) {
            int symbol = symbol(letter);
            if (function == STRIP) {
                return symbol == QUOTE ? 0 : letter;
            }
            if (function == FOLD) {
                return symbol == 1 ? letter + 2 : letter;
            }
            boolean guarded = symbol == QUOTE || symbol == ESCAPE;
            return guarded ? letter(ESCAPE, isTainted(letter)) << 4 | letter : letter;
        }

        static boolean meets(long word, int condition, int symbol) {
            int length = length(word);
            int from = condition == ENDS ? length - 1 : 0;
            int to = condition == BEGINS ? 1 : length;
            for (int i = from; i < to; i++) {
                if (symbol(letterAt(word, length, i)) == symbol) {
                    return true;
                }
            }
            return false;
        }

        /** Where a reader for attacks stands after a letter. */
        static int read(int place, int letter) {
            int symbol = symbol(letter);
            switch (place) {
                case OUT:
                    if (isTainted(letter)) {
                        return WRONG;
                    }
                    return symbol == QUOTE ? IN : OUT;
                case IN:
                    if (symbol == QUOTE) {
                        return isTainted(letter) ? WRONG : OUT;
                    }
                    return symbol == ESCAPE ? BEHIND : IN;
                case BEHIND:
                    return IN;
                default:
                    return WRONG;
            }
        }

        static boolean isAttack(long word) {
            int length = length(word);
            int place = OUT;
            for (int i = 0; i < length; i++) {
                place = read(place, letterAt(word, length, i));
            }
            return place != OUT;
        }
    }

    /** The lines, and how their blocks hang together. */
    private static final class Program {
        static final int MOST_LINES = 24;
        static final int MOST_SINKS = 6;
        static final int MOST_OPEN = 3;

        static final int SET = 0;
        static final int GET = 1;
        static final int JOIN = 2;
        static final int APPLY = 3;
        static final int SINK = 4;
        static final int WHEN = 5;
        static final int OTHER = 6;
        static final int LOOP = 7;
        static final int END_WHEN = 8;
        static final int END_LOOP = 9;

        final int[] kind = new int[MOST_LINES];
        final int[] variable = new int[MOST_LINES];
        /** SET: the constant, GET: the input, JOIN, APPLY: a variable, SINK: its number, WHEN, LOOP: the condition. */
        final int[] first = new int[MOST_LINES];
        /** JOIN: a variable, APPLY: the function, WHEN, LOOP: the symbol. */
        final int[] second = new int[MOST_LINES];
        /** WHEN: its OTHER, or without one its END; OTHER, LOOP: its END; END: its WHEN or LOOP. */
        final int[] mate = new int[MOST_LINES];
        /** How many blocks lie around the block of a WHEN, LOOP or END. */
        final int[] level = new int[MOST_LINES];
        int count;
        int sinks;
        int open;
        /** Of each open block the line that began its part that is open: WHEN, OTHER or LOOP. */
        private final int[] part = new int[MOST_OPEN];
        /** Of each open block its WHEN or LOOP. */
        private final int[] head = new int[MOST_OPEN];

        void empty() {
            count = 0;
            sinks = 0;
            open = 0;
        }

        /** The kind of the line that began the innermost open part; NONE when no block is open. */
        int innermost() {
            return open == 0 ? NONE : kind[part[open - 1]];
        }

        /** Whether the WHEN of an END has an OTHER. */
        boolean hasOther(int end) {
            return mate[mate[end]] != end;
        }

        int add(int lineKind, int v, int a, int b) {
            kind[count] = lineKind;
            variable[count] = v;
            first[count] = a;
            second[count] = b;
            if (lineKind == SINK) {
                sinks++;
            } else if (lineKind == WHEN || lineKind == LOOP) {
                openBlock();
            } else if (lineKind == OTHER) {
                openOther();
            } else if (lineKind == END_WHEN || lineKind == END_LOOP) {
                closeBlock();
            }
            count++;
            return count;
        }

        private void openBlock() {
            level[count] = open;
            head[open] = count;
            part[open] = count;
            open++;
        }

        private void openOther() {
            mate[part[open - 1]] = count;
            part[open - 1] = count;
        }

        private void closeBlock() {
            open--;
            level[count] = open;
            mate[part[open]] = count;
            mate[count] = head[open];
        }
    }

    /** Runs programs, and keeps what the latest run handed to sinks. */
    private static final class Interpreter {
        static final int MOST_STEPS = 1000;
        static final int MOST_KEPT = 20;

        static final int BEHIND_LAST = 0;
        static final int USED_UP = 1;
        static final int TOO_LONG = 2;

        final int[] inputs = new int[INPUTS];
        final long[] words = new long[MOST_KEPT];
        final int[] places = new int[MOST_KEPT];
        int ending = NONE;
        private int handed;
        private final long[] values = new long[VARIABLES];

        int start(Program program, int steps) {
            Arrays.fill(values, 0);
            handed = 0;
            int at = 0;
            for (int used = 0; used < steps && at != NONE && at < program.count; used++) {
                at = goThrough(program, at);
            }
            ending = at == NONE ? TOO_LONG : at < program.count ? USED_UP : BEHIND_LAST;
            return handed;
        }

        boolean isKept(int j) {
            return j >= 0 && j < handed && j < MOST_KEPT;
        }

        /** The line that comes next; NONE when this one is OVERLONG. */
        private int goThrough(Program program, int at) {
            int v = program.variable[at];
            int first = program.first[at];
            int second = program.second[at];
            switch (program.kind[at]) {
                case Program.SET:
                    return put(at, v, Words.ofConstant(first, false));
                case Program.GET:
                    return put(at, v, Words.ofConstant(inputs[first], true));
                case Program.JOIN:
                    return put(at, v, Words.joined(values[first], values[second]));
                case Program.APPLY:
                    return put(at, v, Words.applied(values[first], second));
                case Program.SINK:
                    hand(first, values[v]);
                    return at + 1;
                case Program.WHEN:
                case Program.LOOP:
                    return Words.meets(values[v], first, second) ? at + 1 : program.mate[at] + 1;
                case Program.OTHER:
                    return program.mate[at] + 1;
                case Program.END_LOOP:
                    return program.mate[at];
                default:
                    return at + 1;
            }
        }

        private int put(int at, int v, long word) {
            if (word == Words.OVERLONG) {
                return NONE;
            }
            values[v] = word;
            return at + 1;
        }

        private void hand(int sink, long word) {
            if (handed < MOST_KEPT) {
                words[handed] = word;
                places[handed] = sink;
            }
            handed++;
        }
    }

    /**
     * A regular language as a deterministic automaton that begins in state 0. Those that variables
     * and sinks have are least, with states numbered in the order in which they are first reached,
     * so that two languages are the same when their automata are.
     */
    private static final class Language {
        static final int MOST_STATES = 24;
        static final int ALL_LETTERS = (1 << LETTERS) - 1;
        static final int TAINTED_LETTERS = 0b10101010;

        int states;
        /** Bit q: state q is good, that is, words may end there. */
        private int good;
        private final int[] next = new int[MOST_STATES * LETTERS];

        int after(int q, int letter) {
            return next[q * LETTERS + letter - 1];
        }

        boolean isGood(int q) {
            return (good >> q & 1) == 1;
        }

        /** Whether one of a set of states is good. */
        boolean hasGood(int set) {
            return (good & set) != 0;
        }

        void begin(int stateCount, int goodStates) {
            states = stateCount;
            good = goodStates;
        }

        void lead(int q, int letter, int to) {
            next[q * LETTERS + letter - 1] = to;
        }

        boolean isEmpty() {
            return states == 1 && good == 0;
        }

        boolean contains(long word) {
            int length = Words.length(word);
            int q = 0;
            for (int i = 0; i < length; i++) {
                q = after(q, Words.letterAt(word, length, i));
            }
            return isGood(q);
        }

        boolean isSame(Language that) {
            if (states != that.states || good != that.good) {
                return false;
            }
            for (int i = 0; i < states * LETTERS; i++) {
                if (next[i] != that.next[i]) {
                    return false;
                }
            }
            return true;
        }

        void copy(Language that) {
            states = that.states;
            good = that.good;
            System.arraycopy(that.next, 0, next, 0, states * LETTERS);
        }

        void becomeEmpty() {
            begin(1, 0);
            Arrays.fill(next, 0, LETTERS, 0);
        }

        /** All words of some letters: bit n - 1 stands for letter n. */
        void becomeAllOf(int letters) {
            begin(letters == ALL_LETTERS ? 1 : 2, 1);
            for (int letter = 1; letter <= LETTERS; letter++) {
                lead(0, letter, (letters >> (letter - 1) & 1) == 1 ? 0 : 1);
                lead(1, letter, 1);
            }
        }

        /** The dead state is the first to be reached, by letter 1, unless the word begins with that. */
        void becomeWord(long word) {
            int length = Words.length(word);
            int dead = Words.letterAt(word, length, 0) == 1 ? 2 : 1;
            Arrays.fill(next, 0, (length + 2) * LETTERS, dead);
            int q = 0;
            for (int i = 0; i < length; i++) {
                int to = i + 1 < dead ? i + 1 : i + 2;
                lead(q, Words.letterAt(word, length, i), to);
                q = to;
            }
            begin(length + 2, 1 << q);
        }

        /** All words for which a condition holds. State 0: not met so far, 1: met, 2: never met any more. */
        void becomeMeeting(int condition, int symbol) {
            begin(3, 1 << 1);
            for (int letter = 1; letter <= LETTERS; letter++) {
                boolean fits = Words.symbol(letter) == symbol;
                lead(0, letter, fits ? 1 : condition == Words.BEGINS ? 2 : 0);
                lead(1, letter, fits || condition != Words.ENDS ? 1 : 0);
                lead(2, letter, 2);
            }
        }

        void becomeAttacks() {
            begin(Words.PLACES, 1 << Words.IN | 1 << Words.BEHIND | 1 << Words.WRONG);
            for (int place = 0; place < Words.PLACES; place++) {
                for (int letter = 1; letter <= LETTERS; letter++) {
                    lead(place, letter, Words.read(place, letter));
                }
            }
        }

        /** Becomes that language widened, which must be least; it may be this one. */
        void becomeWide(Language that) {
            if (that.isEmpty()) {
                becomeEmpty();
            } else {
                becomeAllOf(that.letters());
            }
        }

        /** A least automaton has at most one state that leads to no good one: other ways bring letters. */
        private int letters() {
            int dead = deadState();
            int letters = 0;
            for (int i = 0; i < states * LETTERS; i++) {
                if (next[i] != dead) {
                    letters |= 1 << (i % LETTERS);
                }
            }
            return letters;
        }

        private int deadState() {
            for (int q = 0; q < states; q++) {
                boolean stays = (good >> q & 1) == 0;
                for (int way = q * LETTERS; way < (q + 1) * LETTERS && stays; way++) {
                    stays = next[way] == q;
                }
                if (stays) {
                    return q;
                }
            }
            return NONE;
        }
    }

    /**
     * A deterministic automaton by its rule alone; its states are keys below Automaton.MOST_STATES.
     * Each rule has copies of the languages that it uses, so that there is none that is null.
     */
    private abstract static class Rule {
        abstract int firstKey();

        abstract int keyAfter(int key, int letter);

        abstract boolean isGoodKey(int key);
    }

    /** Two languages side by side: a key is a state of each. */
    private static final class Pair extends Rule {
        static final int EITHER = 0;
        static final int BOTH = 1;
        static final int FIRST_ALONE = 2;

        private final Language a = new Language();
        private final Language b = new Language();
        private int choice;

        void use(Language first, Language second, int chosen) {
            a.copy(first);
            b.copy(second);
            choice = chosen;
        }

        int firstKey() {
            return 0;
        }

        int keyAfter(int key, int letter) {
            int p = a.after(key / Language.MOST_STATES, letter);
            int q = b.after(key % Language.MOST_STATES, letter);
            return p * Language.MOST_STATES + q;
        }

        boolean isGoodKey(int key) {
            boolean inA = a.isGood(key / Language.MOST_STATES);
            boolean inB = b.isGood(key % Language.MOST_STATES);
            switch (choice) {
                case EITHER:
                    return inA || inB;
                case BOTH:
                    return inA && inB;
                default:
                    return inA && !inB;
            }
        }
    }

    /** A word of one language and then one of another: a key is a state of the one and a set of states of the other. */
    private static final class Sequence extends Rule {
        static final int MOST_SECOND = 6;
        static final int SETS = 1 << MOST_SECOND;

        private final Language a = new Language();
        private final Language b = new Language();

        void use(Language first, Language second) {
            a.copy(first);
            b.copy(second);
        }

        int firstKey() {
            return keyOf(0, 0);
        }

        int keyAfter(int key, int letter) {
            int set = 0;
            for (int q = 0; q < b.states; q++) {
                if ((key >> q & 1) == 1) {
                    set |= 1 << b.after(q, letter);
                }
            }
            return keyOf(a.after(key / SETS, letter), set);
        }

        boolean isGoodKey(int key) {
            return b.hasGood(key % SETS);
        }

        /** Where a word of the first may end, one of the second may begin. */
        private int keyOf(int p, int set) {
            return p * SETS + (a.isGood(p) ? set | 1 : set);
        }
    }

    /** What GUARD makes of a language: a key is a state, and which escape has come that waits for its letter. */
    private static final class Guarded extends Rule {
        private static final int KINDS = 3;
        private static final int NO_KEY = Language.MOST_STATES * KINDS;

        private final Language a = new Language();

        void use(Language language) {
            a.copy(language);
        }

        int firstKey() {
            return 0;
        }

        int keyAfter(int key, int letter) {
            if (key == NO_KEY) {
                return NO_KEY;
            }
            int q = key / KINDS;
            int waiting = key % KINDS;
            int symbol = Words.symbol(letter);
            int taint = Words.isTainted(letter) ? 2 : 1;
            boolean special = symbol == Words.QUOTE || symbol == Words.ESCAPE;
            if (waiting == 0 && symbol == Words.ESCAPE) {
                return q * KINDS + taint;
            }
            boolean fits = waiting == 0 ? !special : special && waiting == taint;
            return fits ? a.after(q, letter) * KINDS : NO_KEY;
        }

        boolean isGoodKey(int key) {
            return key != NO_KEY && key % KINDS == 0 && a.isGood(key / KINDS);
        }
    }

    /** What STRIP or FOLD makes of a language, letter by letter: a key is a set of states. */
    private static final class Image extends Rule {
        static final int MOST_STATES = 8;

        private final Language a = new Language();
        /** What the function makes of a letter: one letter, or 0 when that is left out. */
        private final int[] made = new int[LETTERS + 1];
        /** For a state the set of itself and those to which letters lead that are left out. */
        private final int[] silent = new int[MOST_STATES];

        void use(Language language, int function) {
            a.copy(language);
            for (int letter = 1; letter <= LETTERS; letter++) {
                made[letter] = Words.image(letter, function);
            }
            for (int q = 0; q < a.states; q++) {
                silent[q] = 1 << q;
            }
            // That often is enough: a way on which no state comes twice is shorter than there are states.
            for (int i = 0; i < a.states; i++) {
                lengthenSilent();
            }
        }

        private void lengthenSilent() {
            for (int q = 0; q < a.states; q++) {
                for (int letter = 1; letter <= LETTERS; letter++) {
                    if (made[letter] == 0) {
                        silent[q] |= silent[a.after(q, letter)];
                    }
                }
            }
        }

        int firstKey() {
            return silent[0];
        }

        int keyAfter(int key, int letter) {
            int set = 0;
            for (int from = 1; from <= LETTERS; from++) {
                for (int q = 0; q < a.states && made[from] == letter; q++) {
                    if ((key >> q & 1) == 1) {
                        set |= silent[a.after(q, from)];
                    }
                }
            }
            return set;
        }

        boolean isGoodKey(int key) {
            return a.hasGood(key);
        }
    }

    /** Writes automata down from their rules and makes least ones of them. */
    private static final class Automaton {
        static final int MOST_STATES = Language.MOST_STATES * Sequence.SETS;
        private static final int BITS_FOR_KIND = 5;

        private int count;
        private final int[] next = new int[MOST_STATES * LETTERS];
        private final boolean[] good = new boolean[MOST_STATES];
        private final int[] key = new int[MOST_STATES];
        /** The state of a key, NONE between explorations. */
        private final int[] stateOf = new int[MOST_STATES];
        /** The place in next by which a state was first reached. */
        private final int[] entry = new int[MOST_STATES];
        /** States of one kind are not told apart so far. */
        private final int[] kind = new int[MOST_STATES];
        private final int[] finerKind = new int[MOST_STATES];
        private final long[] look = new long[Language.MOST_STATES];

        Automaton() {
            Arrays.fill(stateOf, NONE);
        }

        /** States are numbered breadth first, by letters: in the order of their least shortest words. */
        void explore(Rule rule) {
            count = 0;
            reach(rule.firstKey(), NONE);
            for (int i = 0; i < count && i < MOST_STATES; i++) {
                good[i] = rule.isGoodKey(key[i]);
                for (int letter = 1; letter <= LETTERS; letter++) {
                    int way = i * LETTERS + letter - 1;
                    next[way] = reach(rule.keyAfter(key[i], letter), way);
                }
            }
            for (int i = 0; i < count; i++) {
                stateOf[key[i]] = NONE;
            }
        }

        private int reach(int oneKey, int way) {
            if (stateOf[oneKey] == NONE) {
                stateOf[oneKey] = count;
                key[count] = oneKey;
                entry[count] = way;
                count++;
            }
            return stateOf[oneKey];
        }

        /** Makes the language what was explored, widened if its size is above 24. */
        void reduce(Language into) {
            for (int i = 0; i < count; i++) {
                kind[i] = good[i] == good[0] ? 0 : 1;
            }
            int kinds = 1;
            for (int i = 0; i <= Language.MOST_STATES; i++) {
                int finer = refine();
                if (finer > Language.MOST_STATES) {
                    into.becomeAllOf(letters());
                    return;
                }
                if (finer == kinds) {
                    write(into, kinds);
                    return;
                }
                kinds = finer;
            }
        }

        /**
         * Tells states apart by the kinds to which they lead: how many kinds there are then, at once
         * when they are too many. Kinds are numbered by their first states, so breadth first, too.
         */
        private int refine() {
            int kinds = 0;
            for (int i = 0; i < count; i++) {
                long seen = kind[i];
                for (int way = i * LETTERS; way < (i + 1) * LETTERS; way++) {
                    seen = seen << BITS_FOR_KIND | kind[next[way]];
                }
                int k = 0;
                while (k < kinds && look[k] != seen) {
                    k++;
                }
                if (k == Language.MOST_STATES) {
                    return k + 1;
                }
                if (k == kinds) {
                    look[k] = seen;
                    kinds++;
                }
                finerKind[i] = k;
            }
            System.arraycopy(finerKind, 0, kind, 0, count);
            return kinds;
        }

        private void write(Language into, int kinds) {
            int written = 0;
            int goodKinds = 0;
            for (int i = 0; i < count && written < kinds; i++) {
                if (kind[i] != written) {
                    continue;
                }
                for (int letter = 1; letter <= LETTERS; letter++) {
                    into.lead(written, letter, kind[next[i * LETTERS + letter - 1]]);
                }
                if (good[i]) {
                    goodKinds |= 1 << written;
                }
                written++;
            }
            into.begin(kinds, goodKinds);
        }

        /** The letters of all words: those on ways to states from which a good one can be reached. */
        private int letters() {
            boolean more = true;
            for (int i = 0; i < count && more; i++) {
                more = spreadGood();
            }
            int letters = 0;
            for (int way = 0; way < count * LETTERS; way++) {
                if (good[next[way]]) {
                    letters |= 1 << (way % LETTERS);
                }
            }
            return letters;
        }

        /** Backwards, as most ways lead to states with higher numbers. */
        private boolean spreadGood() {
            boolean more = false;
            for (int i = count - 1; i >= 0; i--) {
                for (int way = i * LETTERS; way < (i + 1) * LETTERS && !good[i]; way++) {
                    if (good[next[way]]) {
                        good[i] = true;
                        more = true;
                    }
                }
            }
            return more;
        }

        /** Writes the least shortest word of what was explored into a row: its length, NONE when there is no word. */
        int leastWord(int[] row) {
            int last = 0;
            while (last < count && !good[last]) {
                last++;
            }
            if (last == count) {
                return NONE;
            }
            int length = 0;
            for (int q = last; q != 0 && length < row.length; q = entry[q] / LETTERS) {
                length++;
            }
            int q = last;
            for (int i = length - 1; i >= 0; i--) {
                row[i] = entry[q] % LETTERS + 1;
                q = entry[q] / LETTERS;
            }
            return length;
        }
    }

    /** Goes through a program with languages, and keeps what came of it. */
    private static final class Analysis {
        private static final int WIDENING_ROUND = 3;
        /**
         * Far above all need: a loop has at most 48 rounds, as from the third on each that is not the
         * last brings one of five variables its first widening or one of eight letters more.
         */
        private static final int MOST_PASSES = 100_000_000;
        /** The shortest attack comes to no state of a language twice at the same place of its reader. */
        private static final int LONGEST_WITNESS = Language.MOST_STATES * Words.PLACES;

        final Language[] sinks = new Language[Program.MOST_SINKS];
        final int[] rounds = new int[Program.MOST_LINES];
        boolean made;
        /** How many sinks are unsafe. */
        int unsafe;
        private final int[][] witnesses = new int[Program.MOST_SINKS][LONGEST_WITNESS];
        private final int[] witnessLengths = new int[Program.MOST_SINKS];
        private final Language[] now = new Language[VARIABLES];
        /** For each level the languages before a WHEN, and those that a LOOP holds. */
        private final Language[] before = new Language[Program.MOST_OPEN * VARIABLES];
        /** For each level the languages that a WHEN's first way brought. */
        private final Language[] brought = new Language[Program.MOST_OPEN * VARIABLES];
        private final Language attacks = new Language();
        private final Language meeting = new Language();
        private final Language wide = new Language();
        private final Automaton automaton = new Automaton();
        private final Pair pair = new Pair();
        private final Sequence sequence = new Sequence();
        private final Guarded guarded = new Guarded();
        private final Image image = new Image();

        Analysis() {
            fill(sinks);
            fill(now);
            fill(before);
            fill(brought);
            attacks.becomeAttacks();
        }

        private static void fill(Language[] row) {
            for (int i = 0; i < row.length; i++) {
                row[i] = new Language();
            }
        }

        void forget() {
            made = false;
        }

        boolean isUnsafe(int k) {
            return witnessLengths[k] != NONE;
        }

        int witnessLetter(int k, int i) {
            return i < witnessLengths[k] ? witnesses[k][i] : 0;
        }

        void make(Program program) {
            for (int v = 0; v < VARIABLES; v++) {
                now[v].becomeWord(0);
            }
            int at = 0;
            for (int i = 0; i < MOST_PASSES && at < program.count; i++) {
                int next = at + 1;
                switch (program.kind[at]) {
                    case Program.WHEN:
                        enter(program, at);
                        break;
                    case Program.OTHER:
                        turn(program, program.mate[program.mate[at]]);
                        break;
                    case Program.END_WHEN:
                        if (!program.hasOther(at)) {
                            turn(program, program.mate[at]);
                        }
                        leaveWhen(program, at);
                        break;
                    case Program.LOOP:
                        rounds[at] = 0;
                        enter(program, at);
                        break;
                    case Program.END_LOOP:
                        next = closeRound(program, at);
                        break;
                    case Program.SINK:
                        sinks[program.first[at]].copy(now[program.variable[at]]);
                        break;
                    default:
                        change(program, at);
                        break;
                }
                at = next;
            }
            findWitnesses(program.sinks);
            made = true;
        }

        private void findWitnesses(int sinkCount) {
            unsafe = 0;
            for (int k = 0; k < sinkCount; k++) {
                pair.use(sinks[k], attacks, Pair.BOTH);
                automaton.explore(pair);
                witnessLengths[k] = automaton.leastWord(witnesses[k]);
                if (isUnsafe(k)) {
                    unsafe++;
                }
            }
        }

        private void change(Program program, int at) {
            if (isDead()) {
                return;
            }
            Language into = now[program.variable[at]];
            int first = program.first[at];
            int second = program.second[at];
            switch (program.kind[at]) {
                case Program.SET:
                    into.becomeWord(Words.ofConstant(first, false));
                    break;
                case Program.GET:
                    into.becomeAllOf(Language.TAINTED_LETTERS);
                    break;
                case Program.JOIN:
                    sequence.use(now[first], atMost(now[second], Sequence.MOST_SECOND));
                    automaton.explore(sequence);
                    automaton.reduce(into);
                    break;
                default:
                    boolean widening = second != Words.GUARD;
                    automaton.explore(imageOf(widening ? atMost(now[first], Image.MOST_STATES) : now[first], second));
                    automaton.reduce(into);
                    break;
            }
        }

        /** On a dead way all variables have the empty language, on another one none has. */
        private boolean isDead() {
            return now[0].isEmpty();
        }

        private Rule imageOf(Language language, int function) {
            if (function == Words.GUARD) {
                guarded.use(language);
                return guarded;
            }
            image.use(language, function);
            return image;
        }

        /** The language itself, or what it is widened if its size is above that; itself it stays as it is. */
        private Language atMost(Language language, int states) {
            if (language.states <= states) {
                return language;
            }
            wide.becomeWide(language);
            return wide;
        }

        private void enter(Program program, int head) {
            int base = program.level[head] * VARIABLES;
            for (int v = 0; v < VARIABLES; v++) {
                before[base + v].copy(now[v]);
            }
            keep(program, head, true);
        }

        /** From the end of a WHEN's first way to the beginning of its second. */
        private void turn(Program program, int head) {
            int base = program.level[head] * VARIABLES;
            for (int v = 0; v < VARIABLES; v++) {
                brought[base + v].copy(now[v]);
                now[v].copy(before[base + v]);
            }
            keep(program, head, false);
        }

        private void leaveWhen(Program program, int end) {
            int base = program.level[end] * VARIABLES;
            for (int v = 0; v < VARIABLES; v++) {
                unite(now[v], brought[base + v]);
            }
        }

        /** Goes on behind the loop if that is done, otherwise with its next round: the line that comes next. */
        private int closeRound(Program program, int end) {
            int head = program.mate[end];
            int base = program.level[head] * VARIABLES;
            rounds[head]++;
            boolean done = true;
            for (int v = 0; v < VARIABLES; v++) {
                Language held = before[base + v];
                unite(now[v], held);
                if (!now[v].isSame(held)) {
                    done = false;
                    if (rounds[head] >= WIDENING_ROUND) {
                        now[v].becomeWide(now[v]);
                    }
                    held.copy(now[v]);
                }
            }
            keep(program, head, !done);
            return done ? end + 1 : head + 1;
        }

        private void unite(Language into, Language that) {
            // Spares work, as a way leaves most variables as they are.
            if (into.isSame(that)) {
                return;
            }
            pair.use(into, that, Pair.EITHER);
            automaton.explore(pair);
            automaton.reduce(into);
        }

        /** Keeps for a WHEN or LOOP the words for which its condition holds, or those for which it does not. */
        private void keep(Program program, int head, boolean holds) {
            Language kept = now[program.variable[head]];
            meeting.becomeMeeting(program.first[head], program.second[head]);
            pair.use(kept, meeting, holds ? Pair.BOTH : Pair.FIRST_ALONE);
            automaton.explore(pair);
            automaton.reduce(kept);
            if (kept.isEmpty()) {
                for (int v = 0; v < VARIABLES; v++) {
                    now[v].becomeEmpty();
                }
            }
        }
    }
}
