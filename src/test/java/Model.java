import java.util.ArrayList;
import java.util.Arrays;
import java.util.Comparator;
import java.util.List;

/**
 * The document once more, as slowly and literally as it can be said: an oracle for RunsAgainstModelTest.
 * It shares no code and no short cut with the program.
 */
final class Model {
    private static final int BAD = -1, FULL = -3, NONE = -9;

    private StringBuilder text = new StringBuilder();
    private List<boolean[]> laws = new ArrayList<>();
    private List<boolean[]> says = new ArrayList<>();
    private List<Integer> weights = new ArrayList<>();
    private boolean[] question = new boolean[64];
    private final int[] costs = {1, 1, 1, 1, 1, 1};
    private int measure = 0;
    private long trace = 0;

    Model() {
        Arrays.fill(question, true);
    }

    // ---- texts

    int type(long v, int n) {
        if (n < 1 || n > 8) return BAD;
        if (text.length() + n > 300) return FULL;
        StringBuilder added = new StringBuilder();
        for (int k = 0; k < n; k++) {
            added.insert(0, (char) (v & 255));
            v >>= 8;
        }
        text.append(added);
        return text.length();
    }

    int clear() {
        int had = text.length();
        text = new StringBuilder();
        return had;
    }

    private static final class Token {
        final String word;
        final int place;

        Token(String word, int place) {
            this.word = word;
            this.place = place;
        }
    }

    private List<Token> tokens() {
        List<Token> all = new ArrayList<>();
        String t = text.toString();
        int at = 0;
        while (at < t.length()) {
            if (t.charAt(at) == ' ') {
                at++;
                continue;
            }
            int end = at + 1;
            if (t.substring(at, end).matches("[a-z]")) {
                while (end < t.length() && t.substring(end, end + 1).matches("[a-z]")) end++;
            }
            all.add(new Token(t.substring(at, end), at));
            at = end;
        }
        return all;
    }

    /** A machine with a stack of what is open: it knows of each token whether it can stand there. */
    private static final class Walker {
        final boolean questionOnly;
        final StringBuilder open = new StringBuilder();
        String state;
        int laws = 0;
        int says = 0;

        Walker(boolean questionOnly) {
            this.questionOnly = questionOnly;
            state = questionOnly ? "one" : "item";
        }

        boolean step(String t) {
            switch (state) {
                case "item":
                    if (t.equals("law")) {
                        state = "one";
                        return ++laws <= 3;
                    }
                    state = "weight";
                    return t.equals("say") && ++says <= 7;
                case "weight":
                    state = "one";
                    return t.matches("[1-9]");
                case "one":
                    if (t.equals("!") || t.equals("(")) {
                        open.append(t);
                        return open.length() <= 8;
                    }
                    oneEnds();
                    return t.matches("[a-f01]");
                default:
                    return stepAfterOne(t);
            }
        }

        private void oneEnds() {
            while (open.length() > 0 && open.charAt(open.length() - 1) == '!') open.setLength(open.length() - 1);
            state = "after";
        }

        private boolean stepAfterOne(String t) {
            if (t.equals("|") || t.equals("&")) {
                state = "one";
                return true;
            }
            if (t.equals(")")) {
                if (open.length() == 0) return false;
                open.setLength(open.length() - 1);
                oneEnds();
                return true;
            }
            state = "item";
            return t.equals(";") && open.length() == 0 && !questionOnly;
        }

        boolean mayEnd() {
            return questionOnly ? state.equals("after") && open.length() == 0 : state.equals("item");
        }
    }

    private int fault(boolean questionOnly) {
        Walker walker = new Walker(questionOnly);
        for (Token t : tokens()) {
            if (!walker.step(t.word)) return t.place;
        }
        return walker.mayEnd() ? -1 : text.length();
    }

    /** A saying without faults, as Java's own words would say it: split at the outermost | first, then at &. */
    private static boolean isSo(List<String> t, int world) {
        List<List<String>> parts = split(t, "|");
        if (parts.size() > 1) return parts.stream().anyMatch(p -> isSo(p, world));
        parts = split(t, "&");
        if (parts.size() > 1) return parts.stream().allMatch(p -> isSo(p, world));
        String first = t.get(0);
        if (first.equals("!")) return !isSo(t.subList(1, t.size()), world);
        if (first.equals("(")) return isSo(t.subList(1, t.size() - 1), world);
        if (first.equals("0")) return false;
        if (first.equals("1")) return true;
        int letter = first.charAt(0) - 'a';
        return world / (int) Math.pow(2, letter) % 2 == 1;
    }

    private static List<List<String>> split(List<String> t, String by) {
        List<List<String>> parts = new ArrayList<>();
        int depth = 0;
        int from = 0;
        for (int k = 0; k < t.size(); k++) {
            if (t.get(k).equals("(")) depth++;
            if (t.get(k).equals(")")) depth--;
            if (depth == 0 && t.get(k).equals(by)) {
                parts.add(t.subList(from, k));
                from = k + 1;
            }
        }
        parts.add(t.subList(from, t.size()));
        return parts;
    }

    private static boolean[] soIn(List<String> t) {
        boolean[] so = new boolean[64];
        for (int w = 0; w < 64; w++) so[w] = isSo(t, w);
        return so;
    }

    int tell() {
        int fault = fault(false);
        if (fault >= 0) return -10 - fault;
        laws = new ArrayList<>();
        says = new ArrayList<>();
        weights = new ArrayList<>();
        List<String> item = new ArrayList<>();
        for (Token t : tokens()) {
            if (!t.word.equals(";")) {
                item.add(t.word);
            } else {
                if (item.get(0).equals("law")) {
                    laws.add(soIn(item.subList(1, item.size())));
                } else {
                    weights.add(Integer.parseInt(item.get(1)));
                    says.add(soIn(item.subList(2, item.size())));
                }
                item = new ArrayList<>();
            }
        }
        text = new StringBuilder();
        return laws.size() + says.size();
    }

    int question() {
        int fault = fault(true);
        if (fault >= 0) return -10 - fault;
        List<String> t = new ArrayList<>();
        for (Token token : tokens()) t.add(token.word);
        question = soIn(t);
        text = new StringBuilder();
        return 1;
    }

    private static long bits(boolean[] worlds) {
        long set = 0;
        for (int w = 63; w >= 0; w--) set = 2 * set + (worlds[w] ? 1 : 0);
        return set;
    }

    private boolean[] there() {
        boolean[] there = new boolean[64];
        for (int w = 0; w < 64; w++) {
            there[w] = true;
            for (boolean[] law : laws) there[w] &= law[w];
        }
        return there;
    }

    private boolean noSayer(int i) {
        return i < 0 || i >= says.size();
    }

    private static boolean noWorld(int w) {
        return w < 0 || w > 63;
    }

    long worlds(int what, int i) {
        if (what == 0) return bits(there());
        if (what == 1 && !noSayer(i)) return bits(says.get(i));
        if (what == 2) return bits(question);
        return 0;
    }

    // ---- far

    int cost(int letter, int v) {
        if (letter < 0 || letter > 5 || v < 0 || v > 9) return BAD;
        int was = costs[letter];
        costs[letter] = v;
        return was;
    }

    int measure(int v) {
        if (v < 0 || v > 1) return BAD;
        int was = measure;
        measure = v;
        return was;
    }

    private int far(int one, int other) {
        if (measure == 1) return one == other ? 0 : 1;
        int sum = 0;
        for (int l = 0; l < 6; l++) {
            if ((one >> l & 1) != (other >> l & 1)) sum += costs[l];
        }
        return sum;
    }

    private int farFrom(boolean[] saying, int world) {
        int least = -1;
        for (int w = 0; w < 64; w++) {
            if (saying[w] && (least < 0 || far(world, w) < least)) least = far(world, w);
        }
        return Math.max(least, 0);
    }

    int apart(int one, int other) {
        return noWorld(one) || noWorld(other) ? BAD : far(one, other);
    }

    int burden(int i, int world) {
        return noSayer(i) || noWorld(world) ? BAD : weights.get(i) * farFrom(says.get(i), world);
    }

    // ---- put together

    /** Rows of numbers that are compared from the first on: a sum and a greatest are rows of one. */
    private int[] row(int way, int[] burdens) {
        int[] sorted = burdens.clone();
        Arrays.sort(sorted);
        int[] falling = new int[sorted.length];
        for (int k = 0; k < sorted.length; k++) falling[k] = sorted[sorted.length - 1 - k];
        if (way == 0) return new int[] {Arrays.stream(burdens).sum()};
        if (way == 1) return new int[] {burdens.length == 0 ? 0 : falling[0]};
        return falling;
    }

    /** Burdens by sayer and world. */
    private int[][] burdens() {
        int[][] all = new int[says.size()][64];
        for (int i = 0; i < says.size(); i++) {
            for (int w = 0; w < 64; w++) all[i][w] = burden(i, w);
        }
        return all;
    }

    private boolean[] mergedOf(int way, int[][] burdens) {
        boolean[] there = there();
        int[] best = null;
        int[][] rows = new int[64][];
        for (int w = 0; w < 64; w++) {
            int[] own = new int[burdens.length];
            for (int i = 0; i < own.length; i++) own[i] = burdens[i][w];
            rows[w] = row(way, own);
            if (there[w] && (best == null || Arrays.compare(rows[w], best) < 0)) best = rows[w];
        }
        boolean[] merged = new boolean[64];
        for (int w = 0; w < 64; w++) merged[w] = there[w] && Arrays.equals(rows[w], best);
        return merged;
    }

    long merged(int way) {
        return way < 0 || way > 2 ? 0 : bits(mergedOf(way, burdens()));
    }

    int value(int way, int world) {
        if (way < 0 || way > 1 || noWorld(world)) return BAD;
        int[] own = new int[says.size()];
        for (int i = 0; i < own.length; i++) own[i] = burden(i, world);
        return row(way, own)[0];
    }

    int held(int way) {
        if (way < 0 || way > 2) return BAD;
        boolean[] merged = mergedOf(way, burdens());
        for (int w = 0; w < 64; w++) {
            if (merged[w] && !question[w]) return 0;
        }
        return 1;
    }

    private boolean[] thereWith(boolean so) {
        boolean[] there = there();
        for (int w = 0; w < 64; w++) there[w] &= question[w] == so;
        return there;
    }

    private long leastFar(boolean[] among, boolean[] from) {
        int least = Integer.MAX_VALUE;
        for (int w = 0; w < 64; w++) {
            if (among[w]) least = Math.min(least, farFrom(from, w));
        }
        boolean[] found = new boolean[64];
        for (int w = 0; w < 64; w++) found[w] = among[w] && farFrom(from, w) == least;
        return bits(found);
    }

    long changed(int i, int how) {
        if (noSayer(i) || how < 0 || how > 2) return 0;
        boolean[] saying = says.get(i);
        if (how == 0) return leastFar(thereWith(true), saying);
        if (how == 2) return bits(there()) & bits(saying) | leastFar(thereWith(false), saying);
        long all = 0;
        for (int w = 0; w < 64; w++) {
            boolean[] single = new boolean[64];
            single[w] = true;
            if (saying[w]) all |= leastFar(thereWith(true), single);
        }
        return all;
    }

    // ---- quarrels

    private boolean quarrel(int set) {
        boolean[] there = there();
        for (int w = 0; w < 64; w++) {
            boolean all = there[w];
            for (int i = 0; i < says.size(); i++) {
                if ((set >> i & 1) == 1) all &= says.get(i)[w];
            }
            if (all) return false;
        }
        return true;
    }

    int quarrels(int set) {
        if (set < 0 || set >= 1 << says.size()) return BAD;
        return quarrel(set) ? 1 : 0;
    }

    private List<Integer> listed(int what) {
        List<Integer> list = new ArrayList<>();
        int all = 1 << says.size();
        boolean[] quarrel = new boolean[all];
        for (int s = 0; s < all; s++) quarrel[s] = quarrel(s);
        for (int s = 0; s < all; s++) {
            boolean alone = true;
            for (int t = 0; t < all; t++) {
                if (t != s && what == 0 && (t & s) == t && quarrel[t]) alone = false;
                if (t != s && what == 1 && (t & s) == s && !quarrel[t]) alone = false;
            }
            if (alone && quarrel[s] == (what == 0)) list.add(s);
        }
        Comparator<Integer> bySize = Comparator.comparing(s -> what == 0 ? Integer.bitCount(s) : -Integer.bitCount(s));
        list.sort(bySize.thenComparing(Comparator.naturalOrder()));
        return list;
    }

    int sets(int what, int k) {
        if (what < 0 || what > 1 || k < -1) return BAD;
        List<Integer> list = listed(what);
        if (k == -1) return list.size();
        return k < list.size() ? list.get(k) : BAD;
    }

    int free() {
        int free = 0;
        for (int i = 0; i < says.size(); i++) {
            int one = 1 << i;
            if (listed(0).stream().noneMatch(s -> (s & one) != 0)) free += one;
        }
        return free;
    }

    /** By all orders, one by one: how many there are, and how many are turned by the sayer. */
    private void countOrders(int sayer, int came, boolean[] quarrel, int[] counts, boolean turned) {
        if (came == (1 << says.size()) - 1) {
            counts[1]++;
            if (turned) counts[0]++;
            return;
        }
        for (int i = 0; i < says.size(); i++) {
            int next = came | 1 << i;
            if (next != came) {
                boolean turns = i == sayer && !quarrel[came] && quarrel[next];
                countOrders(sayer, next, quarrel, counts, turned || turns);
            }
        }
    }

    int share(int i, int what) {
        if (noSayer(i) || what < 0 || what > 1) return BAD;
        boolean[] quarrel = new boolean[1 << says.size()];
        for (int s = 0; s < quarrel.length; s++) quarrel[s] = quarrel(s);
        int[] counts = new int[2];
        countOrders(i, 0, quarrel, counts, false);
        for (int d = counts[1]; d > 1; d--) {
            if (counts[0] % d == 0 && counts[1] % d == 0) {
                counts[0] /= d;
                counts[1] /= d;
            }
        }
        return counts[what];
    }

    private int loss(int i, int way, int[][] burdens) {
        boolean[] merged = mergedOf(way, burdens);
        int loss = 0;
        for (int w = 0; w < 64; w++) {
            if (merged[w]) loss = Math.max(loss, farFrom(says.get(i), w));
        }
        return loss;
    }

    int lie(int i, int way, int what) {
        if (noSayer(i) || way < 0 || way > 2 || what < 0 || what > 2) return BAD;
        int[][] burdens = burdens();
        int trueLoss = loss(i, way, burdens);
        if (what == 2) return trueLoss;
        int best = -1;
        int bestLoss = 0;
        for (int so = 0; so < 64; so++) {
            for (int not = 0; not < 64; not++) {
                if ((so & not) != 0) continue;
                boolean[] term = new boolean[64];
                for (int w = 0; w < 64; w++) term[w] = (w & so) == so && (w & not) == 0;
                for (int w = 0; w < 64; w++) burdens[i][w] = weights.get(i) * farFrom(term, w);
                int loss = loss(i, way, burdens);
                if (best < 0 || loss < bestLoss) {
                    best = 64 * so + not;
                    bestLoss = loss;
                }
            }
        }
        if (bestLoss >= trueLoss) return NONE;
        return what == 0 ? best : bestLoss;
    }

    int worth(int kind, int i) {
        if (kind < 0 || kind > 3 || noSayer(i)) return BAD;
        trace += new int[] {1, 11, 101, 1011}[kind];
        int his = 0;
        int shared = 0;
        boolean[] there = there();
        for (int w = 0; w < 64; w++) {
            boolean another = false;
            for (int j = 0; j < says.size(); j++) another |= j != i && says.get(j)[w];
            if (there[w] && says.get(i)[w]) {
                his++;
                if (another) shared++;
            }
        }
        if (kind == 0) return his;
        if (kind == 1) return his * weights.get(i);
        if (kind == 2) return his - shared;
        return his * weights.get(i) + Long.bitCount(merged(0));
    }

    int count(int what) {
        switch (what) {
            case 0: return laws.size();
            case 1: return says.size();
            case 2: return text.length();
            case 3: return weights.stream().mapToInt(Integer::intValue).sum();
            case 4: return Long.bitCount(bits(there()));
            default: return BAD;
        }
    }

    long trace() {
        return trace;
    }

    int sayers() {
        return says.size();
    }
}
