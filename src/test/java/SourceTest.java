import java.io.IOException;
import java.nio.file.Files;
import java.nio.file.Path;
import java.util.List;
import java.util.regex.Pattern;

/** The source keeps to those rules of LANGUAGE.md that can be seen in its text. */
public final class SourceTest {
    private static final Checks CHECKS = new Checks();
    private static final Path SOURCE = Path.of("src/main/java/TaintScanner.java");
    private static final int LONGEST_METHOD = 60;

    /** Lambdas, method references, exceptions and whatever else the rules leave out. */
    private static final String[] RULED_OUT = {
        "->", "::", "\\bthrow\\b", "\\btry\\b", "\\bcatch\\b", "\\bfinally\\b", "\\bsynchronized\\b", "\\bassert\\b",
        "\\bpackage\\b", "\\bprotected\\b", "\\bSystem\\.(?!arraycopy)", "\\bMath\\.", "\\bRandom\\b", "\\bThread\\b",
        "\\bequals\\b", "\\bhashCode\\b", "\\btoString\\b", "while \\(true\\)", "for \\(;", "; ;", "\\bdouble\\b", "\\bfloat\\b",
    };

    public static void main(String[] args) throws IOException {
        String text = Files.readString(SOURCE);
        String code = text.replaceAll("(?s)/\\*.*?\\*/", "").replaceAll("//.*", "");
        for (String wrong : RULED_OUT) {
            CHECKS.holds("no " + wrong, !Pattern.compile(wrong).matcher(code).find());
        }
        for (String line : code.split("\n")) {
            if (line.startsWith("import")) {
                CHECKS.holds(line, line.equals("import java.util.Arrays;"));
            }
        }
        CHECKS.holds("characters 0 to 255 alone", text.chars().allMatch(c -> c < 256));
        methodsAreShort(Files.readAllLines(SOURCE));
        CHECKS.close("SourceTest");
    }

    /** A method is a line with a brace that opens behind a parenthesis, up to the brace that closes below it. */
    private static void methodsAreShort(List<String> lines) {
        Pattern head = Pattern.compile("( {4}| {8})[a-zA-Z].*\\) \\{");
        for (int i = 0; i < lines.size(); i++) {
            if (!head.matcher(lines.get(i)).matches()) {
                continue;
            }
            String indent = lines.get(i).startsWith("        ") ? "        " : "    ";
            int end = i;
            while (!lines.get(end).equals(indent + "}")) {
                end++;
            }
            CHECKS.holds(lines.get(i) + " is short: " + (end - i + 1), end - i < LONGEST_METHOD);
        }
    }
}
