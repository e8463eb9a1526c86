/** Counts answers that are not as due, and helps tests to type texts. */
final class Check {
    private int wrong = 0;
    private int asked = 0;

    void due(String call, long got, long want) {
        asked++;
        if (got != want) {
            wrong++;
            if (wrong <= 50) {
                System.out.println(call + " answered " + got + ", due is " + want);
            }
        }
    }

    /** Two rows of answers that must be the same; only the first difference is told. */
    void dueRow(String of, long[] got, long[] want) {
        due("how many answers " + of, got.length, want.length);
        for (int k = 0; k < Math.min(got.length, want.length); k++) {
            if (got[k] != want[k]) {
                due("answer " + k + " " + of, got[k], want[k]);
                return;
            }
        }
        asked += want.length;
    }

    boolean hasWrong() {
        return wrong != 0;
    }

    void end(String name) {
        System.out.println(name + ": " + asked + " answers, " + wrong + " not as due");
        if (wrong != 0 || asked == 0) {
            System.exit(1);
        }
    }

    /** The number whose lowest bytes are the text's, its first byte the highest of them. */
    static long packed(String part) {
        long v = 0;
        for (int k = 0; k < part.length(); k++) {
            v = v << 8 | part.charAt(k) & 255;
        }
        return v;
    }

    static void typeAll(SayingsMerged x, String text) {
        for (int from = 0; from < text.length(); from += 8) {
            String part = text.substring(from, Math.min(text.length(), from + 8));
            x.type(packed(part), part.length());
        }
    }

    static SayingsMerged told(String text) {
        SayingsMerged x = new SayingsMerged();
        typeAll(x, text);
        if (x.tell() < 0) {
            throw new IllegalStateException("a test's text has a fault: " + text);
        }
        return x;
    }

    static void ask(SayingsMerged x, String question) {
        typeAll(x, question);
        if (x.question() != 1) {
            throw new IllegalStateException("a test's question has a fault: " + question);
        }
    }

    /** The set of the worlds. */
    static long set(int... worlds) {
        long set = 0;
        for (int w : worlds) {
            set |= 1L << w;
        }
        return set;
    }
}
