/** All that an object answers, as a text: two objects that answer alike have the same one. */
final class Answers {
    private static final long[] WORDS = {0, 0x2, 0x13};

    private Answers() {
    }

    /** What the questions answer, about sinks, loops, the latest run and words: 129 calls. */
    static String now(TaintScanner x) {
        StringBuilder told = new StringBuilder();
        for (int k = -1; k <= 6; k++) {
            told.append(" sink ").append(k).append(": ").append(x.size(k));
            for (long word : WORDS) {
                told.append(' ').append(x.accepts(k, word));
            }
            for (int i = 0; i < 3; i++) {
                told.append(' ').append(x.witness(k, i));
            }
        }
        told.append(" rounds:");
        for (int i = -1; i <= 24; i++) {
            told.append(' ').append(x.rounds(i));
        }
        told.append(" ended ").append(x.ended()).append(':');
        for (int j = -1; j <= 20; j++) {
            told.append(' ').append(x.passed(j)).append(" at ").append(x.place(j));
        }
        return told.append(" attacks: ").append(x.attack(0x2)).append(' ').append(x.attack(0x55)).toString();
    }

    /** What comes of more lines, an analysis and a run: so the lines, the open blocks and the inputs show. 149 calls. */
    static String later(TaintScanner x) {
        StringBuilder told = new StringBuilder();
        told.append(x.sink(4)).append(' ').append(x.other()).append(' ').append(x.end());
        told.append(' ').append(x.end()).append(' ').append(x.end());
        told.append(" analysed ").append(x.analyse()).append(" run ").append(x.run(1000));
        told.append(now(x)).append(" cleared ").append(x.clear());
        for (int input = 0; input < 3; input++) {
            x.get(0, input);
            x.sink(0);
        }
        told.append(" run ").append(x.run(6));
        for (int input = 0; input < 3; input++) {
            told.append(' ').append(x.passed(input));
        }
        return told.append(" lines ").append(x.clear()).toString();
    }
}
