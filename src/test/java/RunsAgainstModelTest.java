import java.util.Random;

/** Runs of calls on new objects, made by seeds: every answer must be the model's. */
public final class RunsAgainstModelTest {
    private static final int RUNS = 200;
    private static final int CALLS = 150;
    private static final int[] ODD = {-1, -2, 64, 7, 8, 128, 300, Integer.MIN_VALUE, Integer.MAX_VALUE};

    private final Random random;
    private final SayingsMerged x = new SayingsMerged();
    private final Model model = new Model();
    private final Check check;
    private final String run;
    private int calls = 0;

    private RunsAgainstModelTest(int seed, Check check) {
        this.random = new Random(seed);
        this.check = check;
        this.run = "seed " + seed + ": ";
    }

    public static void main(String[] args) {
        Check check = new Check();
        for (int seed = 0; seed < RUNS && !check.hasWrong(); seed++) {
            new RunsAgainstModelTest(seed, check).go();
        }
        check.end("RunsAgainstModelTest");
    }

    /** Each answer is one call; what an object answers after its 512th is free. */
    private void due(String call, long got, long want) {
        calls++;
        if (calls <= 512) check.due(run + call, got, want);
    }

    private void go() {
        int lies = 0;
        for (int k = 0; k < CALLS && !check.hasWrong(); k++) {
            int which = random.nextInt(30);
            if (k == 0 || which == 0) {
                typeText(someItems());
                tell();
            } else if (which == 1) {
                typeText(broken(saying(4)));
                question();
            } else if (which == 2) {
                typeOdd();
            } else if (which == 3 && lies < 4) {
                lies++;
                lie();
            } else {
                askAny(which);
            }
        }
    }

    // ---- numbers

    private int number(int below) {
        if (random.nextInt(25) == 0) return ODD[random.nextInt(ODD.length)];
        return random.nextInt(Math.max(below, 1));
    }

    private int sayer() {
        return number(model.sayers());
    }

    // ---- texts

    private String blanks() {
        return " ".repeat(random.nextInt(5) == 0 ? random.nextInt(3) : 0);
    }

    private String saying(int size) {
        StringBuilder s = new StringBuilder(both(size));
        while (random.nextInt(3) == 0) s.append(blanks()).append('|').append(blanks()).append(both(size));
        return s.toString();
    }

    private String both(int size) {
        StringBuilder s = new StringBuilder(one(size));
        while (random.nextInt(3) == 0) s.append(blanks()).append('&').append(one(size));
        return s.toString();
    }

    private String one(int size) {
        int which = random.nextInt(20);
        if (which == 0) return random.nextBoolean() ? "0" : "1";
        if (size > 0 && which < 8) return "!" + blanks() + one(size - 1);
        if (size > 0 && which < 11) return "(" + saying(size - 1) + blanks() + ")";
        return String.valueOf((char) ('a' + random.nextInt(6)));
    }

    private String someItems() {
        StringBuilder s = new StringBuilder(blanks());
        int items = random.nextInt(9);
        for (int k = 0; k < items; k++) {
            if (random.nextInt(4) == 0) {
                s.append("law ").append(saying(1));
            } else {
                s.append("say ").append(blanks()).append(1 + random.nextInt(9)).append(' ').append(saying(2));
            }
            s.append(blanks()).append(';').append(blanks());
        }
        return broken(s.toString());
    }

    /** Now and then with a byte changed, taken away or put in, or with many brackets. */
    private String broken(String s) {
        int which = random.nextInt(12);
        int at = random.nextInt(s.length() + 1);
        String bytes = "abgz019;|&!() lawsay#A" + (char) 255 + (char) 9;
        String put = String.valueOf(bytes.charAt(random.nextInt(bytes.length())));
        if (which == 0) return s.substring(0, at) + put + s.substring(at);
        if (which == 1 && at < s.length()) return s.substring(0, at) + s.substring(at + 1);
        if (which == 2 && at < s.length()) return s.substring(0, at) + put + s.substring(at + 1);
        if (which == 3) return s.replace("a", "!(".repeat(random.nextInt(3) + 2) + "a" + ")".repeat(random.nextInt(4)));
        return s;
    }

    private void typeText(String s) {
        if (random.nextInt(4) != 0) due("clear()", x.clear(), model.clear());
        int from = 0;
        while (from < s.length()) {
            int size = Math.min(s.length() - from, 1 + random.nextInt(8));
            long above = size == 8 ? 0 : random.nextLong() << (8 * size);
            type(above | Check.packed(s.substring(from, from + size)), size);
            from += size;
        }
    }

    private void typeOdd() {
        int n = random.nextInt(12) - 2;
        type(random.nextLong(), n);
        if (random.nextInt(8) == 0) {
            for (int k = 0; k < 40; k++) type(0x2020202020202020L, 8);
        }
    }

    private void type(long v, int n) {
        due("type(" + v + ", " + n + ")", x.type(v, n), model.type(v, n));
    }

    private void tell() {
        due("tell()", x.tell(), model.tell());
    }

    private void question() {
        due("question()", x.question(), model.question());
    }

    private void lie() {
        int i = sayer(), way = number(3);
        for (int what = 0; what < 3; what++) {
            int w = number(30) == 0 ? number(3) : what;
            due("lie(" + i + ", " + way + ", " + w + ")", x.lie(i, way, w), model.lie(i, way, w));
        }
    }

    // ---- the rest

    private void askAny(int which) {
        int i = sayer(), way = number(3), w = number(64), v = number(64), two = number(2);
        switch (which) {
            case 4: due("clear()", x.clear(), model.clear()); break;
            case 5: tell(); break;
            case 6: question(); break;
            case 7: case 8: due("worlds(" + way + ", " + i + ")", x.worlds(way, i), model.worlds(way, i)); break;
            case 9: {
                int letter = number(6), cost = number(10);
                due("cost(" + letter + ", " + cost + ")", x.cost(letter, cost), model.cost(letter, cost));
                break;
            }
            case 10: due("measure(" + two + ")", x.measure(two), model.measure(two)); break;
            case 11: due("apart(" + w + ", " + v + ")", x.apart(w, v), model.apart(w, v)); break;
            case 12: due("burden(" + i + ", " + w + ")", x.burden(i, w), model.burden(i, w)); break;
            case 13: case 14: case 15: due("merged(" + way + ")", x.merged(way), model.merged(way)); break;
            case 16: due("value(" + two + ", " + w + ")", x.value(two, w), model.value(two, w)); break;
            case 17: due("held(" + way + ")", x.held(way), model.held(way)); break;
            case 18: case 19: case 20: due("changed(" + i + ", " + way + ")", x.changed(i, way), model.changed(i, way)); break;
            case 21: {
                int set = number(1 << model.sayers());
                due("quarrels(" + set + ")", x.quarrels(set), model.quarrels(set));
                break;
            }
            case 22: case 23: {
                int k = number(8) - 1;
                due("sets(" + two + ", " + k + ")", x.sets(two, k), model.sets(two, k));
                break;
            }
            case 24: due("free()", x.free(), model.free()); break;
            case 25: due("share(" + i + ", " + two + ")", x.share(i, two), model.share(i, two)); break;
            case 26: case 27: {
                int kind = number(4);
                due("worth(" + kind + ", " + i + ")", x.worth(kind, i), model.worth(kind, i));
                break;
            }
            case 28: {
                int what = number(5);
                due("count(" + what + ")", x.count(what), model.count(what));
                break;
            }
            default: due("trace()", x.trace(), model.trace()); break;
        }
    }
}
