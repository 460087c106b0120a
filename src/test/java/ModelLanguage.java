import java.util.ArrayDeque;
import java.util.ArrayList;
import java.util.Arrays;
import java.util.HashMap;
import java.util.HashSet;
import java.util.List;
import java.util.Map;
import java.util.Set;
import java.util.function.Predicate;

/**
 * Regular languages over the letters 1 .. 8 in the plainest form: every operation writes a
 * nondeterministic automaton with silent ways, which is made deterministic by sets and least by
 * telling states apart until nothing changes. Shares no code and no numbering with the program.
 */
final class ModelLanguage {
    /** Nondeterministic: letter 0 is silent. State 0 is the first. */
    private static final class Net {
        final List<List<int[]>> ways = new ArrayList<>();
        final Set<Integer> good = new HashSet<>();

        int state() {
            ways.add(new ArrayList<>());
            return ways.size() - 1;
        }

        void way(int from, int letter, int to) {
            ways.get(from).add(new int[] {letter, to});
        }

        /** Puts in a copy of a language: the number that its state 0 has here. */
        int copy(ModelLanguage l) {
            int base = ways.size();
            for (int q = 0; q < l.next.length; q++) {
                state();
            }
            for (int q = 0; q < l.next.length; q++) {
                for (int letter = 1; letter <= 8; letter++) {
                    way(base + q, letter, base + l.next[q][letter]);
                }
            }
            return base;
        }

        Set<Integer> silent(Set<Integer> from) {
            Set<Integer> all = new HashSet<>(from);
            ArrayDeque<Integer> rest = new ArrayDeque<>(from);
            while (!rest.isEmpty()) {
                for (int[] w : ways.get(rest.poll())) {
                    if (w[0] == 0 && all.add(w[1])) {
                        rest.add(w[1]);
                    }
                }
            }
            return all;
        }

        ModelLanguage language() {
            Map<Set<Integer>, Integer> number = new HashMap<>();
            List<Set<Integer>> sets = new ArrayList<>();
            List<int[]> rows = new ArrayList<>();
            sets.add(silent(Set.of(0)));
            number.put(sets.get(0), 0);
            for (int i = 0; i < sets.size(); i++) {
                int[] row = new int[9];
                for (int letter = 1; letter <= 8; letter++) {
                    Set<Integer> to = new HashSet<>();
                    for (int q : sets.get(i)) {
                        for (int[] w : ways.get(q)) {
                            if (w[0] == letter) {
                                to.add(w[1]);
                            }
                        }
                    }
                    to = silent(to);
                    if (!number.containsKey(to)) {
                        number.put(to, sets.size());
                        sets.add(to);
                    }
                    row[letter] = number.get(to);
                }
                rows.add(row);
            }
            boolean[] ends = new boolean[sets.size()];
            for (int i = 0; i < ends.length; i++) {
                for (int q : sets.get(i)) {
                    ends[i] |= good.contains(q);
                }
            }
            return least(rows.toArray(new int[0][]), ends);
        }
    }

    final int[][] next;
    final boolean[] good;

    private ModelLanguage(int[][] next, boolean[] good) {
        this.next = next;
        this.good = good;
    }

    private static ModelLanguage least(int[][] next, boolean[] good) {
        int n = next.length;
        int[] kind = new int[n];
        for (int q = 0; q < n; q++) {
            kind[q] = good[q] ? 1 : 0;
        }
        int kinds = (int) Arrays.stream(kind).distinct().count();
        while (true) {
            Map<List<Integer>, Integer> found = new HashMap<>();
            int[] finer = new int[n];
            for (int q = 0; q < n; q++) {
                List<Integer> look = new ArrayList<>();
                look.add(kind[q]);
                for (int letter = 1; letter <= 8; letter++) {
                    look.add(kind[next[q][letter]]);
                }
                finer[q] = found.computeIfAbsent(look, x -> found.size());
            }
            kind = finer;
            if (found.size() == kinds) {
                break;
            }
            kinds = found.size();
        }
        int[][] leastNext = new int[kinds][9];
        boolean[] leastGood = new boolean[kinds];
        for (int q = n - 1; q >= 0; q--) {
            for (int letter = 1; letter <= 8; letter++) {
                leastNext[kind[q]][letter] = kind[next[q][letter]];
            }
            leastGood[kind[q]] = good[q];
        }
        return new ModelLanguage(leastNext, leastGood);
    }

    static ModelLanguage ofWord(String word) {
        Net net = new Net();
        int q = net.state();
        for (char c : word.toCharArray()) {
            int to = net.state();
            net.way(q, c - '0', to);
            q = to;
        }
        net.good.add(q);
        return net.language();
    }

    static ModelLanguage empty() {
        Net net = new Net();
        net.state();
        return net.language();
    }

    static ModelLanguage allOf(Set<Integer> letters) {
        Net net = new Net();
        net.state();
        for (int letter : letters) {
            net.way(0, letter, 0);
        }
        net.good.add(0);
        return net.language();
    }

    int size() {
        return next.length;
    }

    boolean isEmpty() {
        for (boolean g : good) {
            if (g) {
                return false;
            }
        }
        return true;
    }

    boolean has(String word) {
        int q = 0;
        for (char c : word.toCharArray()) {
            q = next[q][c - '0'];
        }
        return good[q];
    }

    private boolean leadsToGood(int from) {
        Set<Integer> seen = new HashSet<>(Set.of(from));
        ArrayDeque<Integer> rest = new ArrayDeque<>(seen);
        while (!rest.isEmpty()) {
            int q = rest.poll();
            if (good[q]) {
                return true;
            }
            for (int letter = 1; letter <= 8; letter++) {
                if (seen.add(next[q][letter])) {
                    rest.add(next[q][letter]);
                }
            }
        }
        return false;
    }

    ModelLanguage widened() {
        if (isEmpty()) {
            return this;
        }
        Set<Integer> letters = new HashSet<>();
        for (int q = 0; q < next.length; q++) {
            for (int letter = 1; letter <= 8; letter++) {
                if (leadsToGood(next[q][letter])) {
                    letters.add(letter);
                }
            }
        }
        return allOf(letters);
    }

    ModelLanguage widenedAbove(int most) {
        return size() > most ? widened() : this;
    }

    ModelLanguage union(ModelLanguage that) {
        Net net = new Net();
        net.state();
        net.way(0, 0, copyWithGood(net, this));
        net.way(0, 0, copyWithGood(net, that));
        return net.language();
    }

    private static int copyWithGood(Net net, ModelLanguage l) {
        int base = net.copy(l);
        for (int q = 0; q < l.good.length; q++) {
            if (l.good[q]) {
                net.good.add(base + q);
            }
        }
        return base;
    }

    ModelLanguage then(ModelLanguage that) {
        Net net = new Net();
        int first = net.copy(this);
        int second = copyWithGood(net, that);
        for (int q = 0; q < good.length; q++) {
            if (good[q]) {
                net.way(first + q, 0, second);
            }
        }
        return net.language();
    }

    /** What becomes of the words when each letter becomes a word. */
    ModelLanguage image(String[] ofLetter) {
        Net net = new Net();
        for (int q = 0; q < next.length; q++) {
            net.state();
            if (good[q]) {
                net.good.add(q);
            }
        }
        for (int q = 0; q < next.length; q++) {
            for (int letter = 1; letter <= 8; letter++) {
                int at = q;
                String made = ofLetter[letter];
                for (int i = 0; i + 1 < made.length(); i++) {
                    int to = net.state();
                    net.way(at, made.charAt(i) - '0', to);
                    at = to;
                }
                net.way(at, made.isEmpty() ? 0 : made.charAt(made.length() - 1) - '0', next[q][letter]);
            }
        }
        return net.language();
    }

    /** The words that a language of the model has, too, or those that it has not. */
    ModelLanguage kept(ModelLanguage that, boolean holds) {
        Map<List<Integer>, Integer> number = new HashMap<>();
        List<List<Integer>> pairs = new ArrayList<>();
        List<int[]> rows = new ArrayList<>();
        pairs.add(List.of(0, 0));
        number.put(pairs.get(0), 0);
        for (int i = 0; i < pairs.size(); i++) {
            int[] row = new int[9];
            for (int letter = 1; letter <= 8; letter++) {
                List<Integer> to = List.of(next[pairs.get(i).get(0)][letter], that.next[pairs.get(i).get(1)][letter]);
                if (!number.containsKey(to)) {
                    number.put(to, pairs.size());
                    pairs.add(to);
                }
                row[letter] = number.get(to);
            }
            rows.add(row);
        }
        boolean[] ends = new boolean[pairs.size()];
        for (int i = 0; i < ends.length; i++) {
            ends[i] = good[pairs.get(i).get(0)] && that.good[pairs.get(i).get(1)] == holds;
        }
        return least(rows.toArray(new int[0][]), ends);
    }

    /** All words with a letter of a symbol anywhere (0), first (1) or last (2). */
    static ModelLanguage meeting(int condition, int symbol) {
        Set<Integer> all = Set.of(1, 2, 3, 4, 5, 6, 7, 8);
        ModelLanguage one = ofWord("" + (2 * symbol - 1)).union(ofWord("" + 2 * symbol));
        ModelLanguage any = allOf(all);
        return switch (condition) {
            case 0 -> any.then(one).then(any);
            case 1 -> one.then(any);
            default -> any.then(one);
        };
    }

    boolean isSame(ModelLanguage that) {
        return kept(that, false).isEmpty() && that.kept(this, false).isEmpty();
    }

    /**
     * The shortest word that is an attack, the least of several; null when there is none. Words are
     * made in order; one that comes where an earlier one of its end did can't become a better one.
     */
    String witness(Predicate<String> isAttack) {
        Set<String> seen = new HashSet<>();
        ArrayDeque<String> rest = new ArrayDeque<>(List.of(""));
        while (!rest.isEmpty()) {
            String word = rest.poll();
            if (has(word) && isAttack.test(word)) {
                return word;
            }
            for (int letter = 1; letter <= 8; letter++) {
                String longer = word + letter;
                if (seen.add(stateAfter(longer) + " " + fates(longer, isAttack))) {
                    rest.add(longer);
                }
            }
        }
        return null;
    }

    private int stateAfter(String word) {
        int q = 0;
        for (char c : word.toCharArray()) {
            q = next[q][c - '0'];
        }
        return q;
    }

    /** Endings that tell apart all that the reader for attacks may remember. */
    private static String fates(String word, Predicate<String> isAttack) {
        StringBuilder fates = new StringBuilder();
        for (String ending : new String[] {"", "5", "15"}) {
            fates.append(isAttack.test(word + ending) ? 'x' : '.');
        }
        return fates.toString();
    }
}
