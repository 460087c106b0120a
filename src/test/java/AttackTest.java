/** Promise 22: attack, for every word of at most six letters, and at the edges of words. */
public final class AttackTest {
    private static final Checks CHECKS = new Checks();

    private static final int MOST_CALLS = 512;

    private static TaintScanner scanner = new TaintScanner();
    private static int calls = 0;

    public static void main(String[] args) {
        TaintScanner x = new TaintScanner();
        plainWords(x);
        noWords(x);
        everyShortWord(0, "");
        CHECKS.close("AttackTest");
    }

    /** Asks a new object when the last one has had its calls. */
    private static int attack(long word) {
        if (calls == MOST_CALLS) {
            scanner = new TaintScanner();
            calls = 0;
        }
        calls++;
        return scanner.attack(word);
    }

    private static void plainWords(TaintScanner x) {
        CHECKS.same("22 the empty word", x.attack(0), 0);
        CHECKS.same("22 plain letters", x.attack(0x137), 0);
        CHECKS.same("22 a tainted letter outside", x.attack(0x2), 1);
        CHECKS.same("22 it stays wrong", x.attack(0x8131), 1);
        CHECKS.same("22 ends IN", x.attack(0x5), 1);
        CHECKS.same("22 quoted", x.attack(0x55), 0);
        CHECKS.same("22 tainted within quotes", x.attack(0x5245), 0);
        CHECKS.same("22 a tainted quote", x.attack(0x565), 1);
        CHECKS.same("22 behind an escape", x.attack(0x5765), 0);
        CHECKS.same("22 behind a tainted escape", x.attack(0x5865), 0);
        CHECKS.same("22 the closing quote behind an escape", x.attack(0x585), 1);
        CHECKS.same("22 ends BEHIND", x.attack(0x58), 1);
        CHECKS.same("22 two escapes", x.attack(0x5885), 0);
        CHECKS.same("22 an escape outside is none", x.attack(0x755), 0);
        CHECKS.same("22 tainted behind the quotes", x.attack(0x552), 1);
        CHECKS.same("22 15 letters", x.attack(0x522222222222225L), 0);
        CHECKS.same("22 15 letters, the last wrong", x.attack(0x522222222222252L), 1);
    }

    private static void noWords(TaintScanner x) {
        long[] none = {9, 0xF, 0x10, 0x501, -1, Long.MIN_VALUE, Long.MAX_VALUE, 0x1111111111111111L, 0x8111111111111111L,
            0x1000000000000000L, 0x911111111111111L};
        for (long word : none) {
            CHECKS.same("22 " + word, x.attack(word), -1);
        }
    }

    private static void everyShortWord(long word, String text) {
        CHECKS.same("22 word " + text, attack(word), ModelScanner.isAttack(text) ? 1 : 0);
        for (int letter = 1; letter <= 8 && text.length() < 6; letter++) {
            everyShortWord(word << 4 | letter, text + letter);
        }
    }
}
