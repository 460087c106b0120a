import java.util.ArrayList;
import java.util.HashMap;
import java.util.List;
import java.util.Map;
import java.util.regex.Pattern;

/** The document's calls in their plainest form, with words as texts of digits and programs as trees. */
final class ModelScanner {
    /** A line; a WHEN or LOOP has the lines within it. */
    private static final class Line {
        String kind;
        int number;
        int[] args;
        int sink;
        List<Line> body = new ArrayList<>();
        Line other;
        List<Line> otherBody;
        Line end;
    }

    private static final Pattern CONSTANT = Pattern.compile("[1-4]{0,6}");
    private static final Pattern WORD = Pattern.compile("[1-8]{0,15}");
    /** Plain letters outside of quotes; within, letters but quotes, an escape with any one behind it. */
    private static final Pattern SAFE = Pattern.compile("([137]|5([1-4]|[78][1-8])*5)*");

    private static final String[] GUARD = {null, "1", "2", "3", "4", "75", "86", "77", "88"};
    private static final String[] STRIP = {null, "1", "2", "3", "4", "", "", "7", "8"};
    private static final String[] FOLD = {null, "3", "4", "3", "4", "5", "6", "7", "8"};
    private static final String[][] FUNCTIONS = {GUARD, STRIP, FOLD};

    private static final class Stop extends RuntimeException {
        private static final long serialVersionUID = 1;
        final int ending;

        Stop(int ending) {
            super(null, null, false, false);
            this.ending = ending;
        }
    }

    private List<Line> top = new ArrayList<>();
    private List<Line> open = new ArrayList<>();
    private int lines = 0;
    private int sinks = 0;
    private final String[] inputs = {"", "", ""};

    private Map<Integer, ModelLanguage> sinkLanguages = null;
    private Map<Integer, Integer> rounds = null;

    private List<String> passed = null;
    private List<Integer> places = null;
    private int ended = -1;
    private int left;
    private String[] values;

    // the calls that add lines

    int set(int v, int constant) {
        return variable(v) && constant(constant) ? add("SET", v, constant) : -1;
    }

    int get(int v, int input) {
        return variable(v) && input >= 0 && input <= 2 ? add("GET", v, input) : -1;
    }

    int join(int v, int a, int b) {
        return variable(v) && variable(a) && variable(b) ? add("JOIN", v, a, b) : -1;
    }

    int apply(int v, int a, int f) {
        return variable(v) && variable(a) && f >= 0 && f <= 2 ? add("APPLY", v, a, f) : -1;
    }

    int sink(int v) {
        return variable(v) && sinks < 6 ? add("SINK", v) : -1;
    }

    int when(int v, int condition, int symbol) {
        return block("WHEN", v, condition, symbol);
    }

    int loop(int v, int condition, int symbol) {
        return block("LOOP", v, condition, symbol);
    }

    private int block(String kind, int v, int condition, int symbol) {
        boolean right = variable(v) && condition >= 0 && condition <= 2 && symbol >= 1 && symbol <= 4;
        return right && open.size() < 3 ? add(kind, v, condition, symbol) : -1;
    }

    int other() {
        if (open.isEmpty() || !innermost().kind.equals("WHEN") || innermost().other != null) {
            return -1;
        }
        return add("OTHER");
    }

    int end() {
        return open.isEmpty() ? -1 : add("END");
    }

    private Line innermost() {
        return open.get(open.size() - 1);
    }

    private int add(String kind, int... args) {
        if (lines == 24) {
            return -1;
        }
        Line line = new Line();
        line.kind = kind;
        line.number = lines;
        line.args = args;
        line.sink = sinks;
        if (kind.equals("OTHER")) {
            innermost().other = line;
            innermost().otherBody = new ArrayList<>();
        } else if (kind.equals("END")) {
            innermost().end = line;
            open.remove(open.size() - 1);
        } else {
            List<Line> body = open.isEmpty() ? top : innermost().other == null ? innermost().body : innermost().otherBody;
            body.add(line);
        }
        if (kind.equals("WHEN") || kind.equals("LOOP")) {
            open.add(line);
        }
        if (kind.equals("SINK")) {
            sinks++;
        }
        lines++;
        sinkLanguages = null;
        return lines;
    }

    int clear() {
        int were = lines;
        top = new ArrayList<>();
        open = new ArrayList<>();
        lines = 0;
        sinks = 0;
        sinkLanguages = null;
        return were;
    }

    // the analysis

    int analyse() {
        if (!open.isEmpty()) {
            return -1;
        }
        sinkLanguages = new HashMap<>();
        rounds = new HashMap<>();
        ModelLanguage[] now = new ModelLanguage[5];
        java.util.Arrays.fill(now, ModelLanguage.ofWord(""));
        through(top, now);
        int unsafe = 0;
        for (ModelLanguage l : sinkLanguages.values()) {
            if (l.witness(ModelScanner::isAttack) != null) {
                unsafe++;
            }
        }
        return unsafe;
    }

    private ModelLanguage[] through(List<Line> body, ModelLanguage[] before) {
        ModelLanguage[] now = before.clone();
        for (Line line : body) {
            int[] a = line.args;
            boolean dead = now[0].isEmpty();
            switch (line.kind) {
                case "SINK" -> sinkLanguages.put(line.sink, now[a[0]]);
                case "WHEN" -> now = throughWhen(line, now);
                case "LOOP" -> now = throughLoop(line, now);
                default -> {
                    if (!dead) {
                        now[a[0]] = made(line, now).widenedAbove(24);
                    }
                }
            }
        }
        return now;
    }

    private ModelLanguage made(Line line, ModelLanguage[] now) {
        int[] a = line.args;
        return switch (line.kind) {
            case "SET" -> ModelLanguage.ofWord(letters(Integer.toHexString(a[1]), 1));
            case "GET" -> ModelLanguage.allOf(java.util.Set.of(2, 4, 6, 8));
            case "JOIN" -> now[a[1]].then(now[a[2]].widenedAbove(6));
            default -> (a[2] == 0 ? now[a[1]] : now[a[1]].widenedAbove(8)).image(FUNCTIONS[a[2]]);
        };
    }

    private static ModelLanguage[] kept(Line line, ModelLanguage[] before, boolean holds) {
        ModelLanguage[] now = before.clone();
        ModelLanguage meeting = ModelLanguage.meeting(line.args[1], line.args[2]);
        now[line.args[0]] = now[line.args[0]].kept(meeting, holds).widenedAbove(24);
        if (now[line.args[0]].isEmpty()) {
            java.util.Arrays.fill(now, ModelLanguage.empty());
        }
        return now;
    }

    private static ModelLanguage[] union(ModelLanguage[] a, ModelLanguage[] b) {
        ModelLanguage[] now = new ModelLanguage[5];
        for (int v = 0; v < 5; v++) {
            now[v] = a[v].union(b[v]).widenedAbove(24);
        }
        return now;
    }

    private ModelLanguage[] throughWhen(Line line, ModelLanguage[] before) {
        ModelLanguage[] one = through(line.body, kept(line, before, true));
        ModelLanguage[] two = kept(line, before, false);
        if (line.other != null) {
            two = through(line.otherBody, two);
        }
        return union(one, two);
    }

    private ModelLanguage[] throughLoop(Line line, ModelLanguage[] before) {
        ModelLanguage[] h = before;
        for (int round = 1; ; round++) {
            ModelLanguage[] u = union(h, through(line.body, kept(line, h, true)));
            boolean done = true;
            for (int v = 0; v < 5; v++) {
                if (!u[v].isSame(h[v])) {
                    done = false;
                    u[v] = round >= 3 ? u[v].widened() : u[v];
                }
            }
            if (done) {
                rounds.put(line.number, round);
                return kept(line, h, false);
            }
            h = u;
        }
    }

    int size(int k) {
        return hasSink(k) ? sinkLanguages.get(k).size() : -1;
    }

    int accepts(int k, long word) {
        return hasSink(k) && word(word) ? sinkLanguages.get(k).has(text(word)) ? 1 : 0 : -1;
    }

    int witness(int k, int i) {
        String witness = hasSink(k) ? sinkLanguages.get(k).witness(ModelScanner::isAttack) : null;
        return witness == null || i < 0 ? -1 : i < witness.length() ? witness.charAt(i) - '0' : 0;
    }

    int rounds(int i) {
        return sinkLanguages == null ? -1 : rounds.getOrDefault(i, -1);
    }

    private boolean hasSink(int k) {
        return sinkLanguages != null && sinkLanguages.containsKey(k);
    }

    // runs

    boolean give(int input, int word) {
        if (input < 0 || input > 2 || !constant(word)) {
            return false;
        }
        inputs[input] = letters(Integer.toHexString(word), 0);
        return true;
    }

    int run(int steps) {
        if (steps < 1 || steps > 1000 || !open.isEmpty()) {
            return -1;
        }
        passed = new ArrayList<>();
        places = new ArrayList<>();
        left = steps;
        values = new String[] {"", "", "", "", ""};
        try {
            runBody(top);
            ended = 0;
        } catch (Stop stop) {
            ended = stop.ending;
        }
        return passed.size();
    }

    private void come() {
        if (left == 0) {
            throw new Stop(1);
        }
        left--;
    }

    private void runBody(List<Line> body) {
        for (Line line : body) {
            switch (line.kind) {
                case "WHEN" -> {
                    come();
                    runWhen(line);
                }
                case "LOOP" -> {
                    come();
                    while (meets(line)) {
                        runBody(line.body);
                        come();
                        come();
                    }
                }
                case "SINK" -> {
                    come();
                    passed.add(values[line.args[0]]);
                    places.add(line.sink);
                }
                default -> {
                    come();
                    String value = value(line);
                    if (value.length() > 15) {
                        throw new Stop(2);
                    }
                    values[line.args[0]] = value;
                }
            }
        }
    }

    private void runWhen(Line line) {
        if (meets(line)) {
            runBody(line.body);
            come();
        } else if (line.other != null) {
            runBody(line.otherBody);
            come();
        }
    }

    private boolean meets(Line line) {
        String value = values[line.args[0]];
        String either = "[" + (2 * line.args[2] - 1) + 2 * line.args[2] + "]";
        return value.matches(switch (line.args[1]) {
            case 0 -> ".*" + either + ".*";
            case 1 -> either + ".*";
            default -> ".*" + either;
        });
    }

    private String value(Line line) {
        int[] a = line.args;
        return switch (line.kind) {
            case "SET" -> letters(Integer.toHexString(a[1]), 1);
            case "GET" -> inputs[a[1]];
            case "JOIN" -> values[a[1]] + values[a[2]];
            default -> {
                StringBuilder made = new StringBuilder();
                for (char c : values[a[1]].toCharArray()) {
                    made.append(FUNCTIONS[a[2]][c - '0']);
                }
                yield made.toString();
            }
        };
    }

    int ended() {
        return ended;
    }

    long passed(int j) {
        return isKept(j) ? Long.parseLong("0" + passed.get(j), 16) : -1;
    }

    int place(int j) {
        return isKept(j) ? places.get(j) : -1;
    }

    private boolean isKept(int j) {
        return passed != null && j >= 0 && j < 20 && j < passed.size();
    }

    int attack(long word) {
        return word(word) ? isAttack(text(word)) ? 1 : 0 : -1;
    }

    // words

    static boolean isAttack(String word) {
        return !SAFE.matcher(word).matches();
    }

    private static String text(long word) {
        return word == 0 ? "" : Long.toHexString(word);
    }

    private static boolean word(long word) {
        return WORD.matcher(text(word)).matches();
    }

    private static boolean variable(int v) {
        return v >= 0 && v <= 4;
    }

    private static boolean constant(int constant) {
        return CONSTANT.matcher(constant == 0 ? "" : Integer.toHexString(constant)).matches();
    }

    private static String letters(String symbols, int less) {
        if (symbols.equals("0")) {
            return "";
        }
        StringBuilder letters = new StringBuilder();
        for (char c : symbols.toCharArray()) {
            letters.append(2 * (c - '0') - less);
        }
        return letters.toString();
    }
}
