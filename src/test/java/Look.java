import java.util.Arrays;

/**
 * All that later calls show of an object, as one row of numbers: two objects with the same row are in the same
 * state as far as the document goes. A look takes some 320 calls, so an object stays below its 512.
 */
final class Look {
    private static final int[] WORLDS = {0, 1, 22, 41, 63};

    private final SayingsMerged x;
    private final long[] seen = new long[512];
    private int size = 0;

    private Look(SayingsMerged x) {
        this.x = x;
    }

    static long[] at(SayingsMerged x) {
        Look look = new Look(x);
        look.texts();
        look.far();
        look.putTogether();
        look.quarrels();
        look.kinds();
        look.endOfText();
        return Arrays.copyOf(look.seen, look.size);
    }

    /** The most telling part of it, in some 40 calls, for tests with thousands of texts. */
    static long[] brieflyAt(SayingsMerged x) {
        Look look = new Look(x);
        look.texts();
        for (int i = 0; i < 7; i++) look.add(x.burden(i, 0));
        for (int way = 0; way < 3; way++) look.add(x.merged(way));
        look.add(x.quarrels(3));
        look.add(x.sets(0, 0));
        look.add(x.changed(1, 2));
        look.endOfText();
        return Arrays.copyOf(look.seen, look.size);
    }

    private void add(long answer) {
        seen[size++] = answer;
    }

    private void texts() {
        for (int what = 0; what < 5; what++) add(x.count(what));
        add(x.trace());
        add(x.worlds(0, 0));
        add(x.worlds(2, 0));
        for (int i = 0; i < 7; i++) add(x.worlds(1, i));
    }

    private void far() {
        for (int i = 0; i < 7; i++) {
            for (int w : WORLDS) add(x.burden(i, w));
        }
        int measure = x.measure(0);
        add(measure);
        for (int letter = 0; letter < 6; letter++) add(x.apart(0, 1 << letter));
        add(x.measure(1));
        for (int letter = 0; letter < 6; letter++) {
            int cost = x.cost(letter, 0);
            add(cost);
            x.cost(letter, cost);
        }
        x.measure(measure);
    }

    private void putTogether() {
        for (int way = 0; way < 3; way++) {
            add(x.merged(way));
            add(x.held(way));
            for (int w : WORLDS) add(x.value(way, w));
        }
        for (int i = 0; i < 7; i++) {
            for (int how = 0; how < 3; how++) add(x.changed(i, how));
        }
    }

    private void quarrels() {
        for (int set = 0; set < 128; set++) add(x.quarrels(set));
        for (int k = -1; k < 8; k++) {
            add(x.sets(0, k));
            add(x.sets(1, k));
        }
        add(x.free());
        for (int i = 0; i < 7; i++) {
            add(x.share(i, 0));
            add(x.share(i, 1));
            for (int way = 0; way < 3; way++) add(x.lie(i, way, 2));
        }
        add(x.lie(0, 1, 0));
        add(x.lie(1, 2, 0));
    }

    private void kinds() {
        for (int kind = 0; kind < 4; kind++) {
            for (int i = 0; i < 7; i += 3) add(x.worth(kind, i));
        }
        add(x.trace());
    }

    /** The bytes of THE TEXT are seen only by what they tell, so it is brought to an end here. */
    private void endOfText() {
        add(x.type(Check.packed("b;"), 2));
        add(x.question());
        add(x.tell());
        add(x.worlds(0, 0));
        add(x.worlds(1, 0));
        add(x.worlds(2, 0));
        add(x.count(3));
        add(x.clear());
    }
}
