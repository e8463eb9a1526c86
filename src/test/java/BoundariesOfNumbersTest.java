import java.util.ArrayList;
import java.util.List;

/**
 * "Refused, and nothing changes, the first of these: BAD (a number is not as told, or there is no such thing), FULL."
 * For every number of every call: the last that is taken and the first that is refused on each side, in several
 * states, and that a refused call leaves all that later calls show as it was.
 */
public final class BoundariesOfNumbersTest {
    private static final Check CHECK = new Check();
    private static final int BAD = SayingsMerged.BAD, FULL = SayingsMerged.FULL;
    private static final int LEAST = Integer.MIN_VALUE, GREATEST = Integer.MAX_VALUE;

    private interface Call {
        long on(SayingsMerged x);
    }

    private interface State {
        SayingsMerged made();
    }

    private record Named(String name, Call call, long want) {
    }

    public static void main(String[] args) {
        refusedIn("a new object", SayingsMerged::new, 0);
        refusedIn("three sayers", BoundariesOfNumbersTest::three, 3);
        refusedIn("seven sayers", BoundariesOfNumbersTest::seven, 7);
        refusedIn("measure 1", BoundariesOfNumbersTest::byMeasureOne, 3);
        refusedIn("no world", BoundariesOfNumbersTest::noWorld, 2);
        refusedIn("a full text", BoundariesOfNumbersTest::fullText, 7);
        takenSayers();
        takenNumbers();
        takenCosts();
        takenSets();
        lastCall();
        CHECK.end("BoundariesOfNumbersTest");
    }

    private static void due(String call, long got, long want) {
        CHECK.due(call, got, want);
    }

    // ---- states

    private static SayingsMerged three() {
        SayingsMerged x = Check.told("law !f;say 2 a&b;say 3 !a;say 9 c|d;");
        Check.ask(x, "a|c");
        x.cost(0, 3);
        x.worth(3, 0);
        Check.typeAll(x, "law c&");
        return x;
    }

    private static SayingsMerged seven() {
        SayingsMerged x = Check.told("law a|f;say 1 a;say 2 b;say 3 c;say 4 !d;say 5 e;say 6 !f;say 7 !a|!b;");
        Check.ask(x, "!e");
        x.cost(4, 0);
        x.cost(5, 9);
        Check.typeAll(x, "say 5 a|");
        return x;
    }

    private static SayingsMerged byMeasureOne() {
        SayingsMerged x = three();
        x.measure(1);
        x.worth(2, 1);
        return x;
    }

    private static SayingsMerged noWorld() {
        SayingsMerged x = Check.told("law a;law !a;say 2 a;say 3 b;");
        x.worth(1, 1);
        Check.typeAll(x, "a|!");
        return x;
    }

    private static SayingsMerged fullText() {
        SayingsMerged x = seven();
        x.clear();
        Check.typeAll(x, "a|" + " ".repeat(297) + "d");
        return x;
    }

    // ---- what is refused

    private static void refusedIn(String state, State made, int sayers) {
        List<Named> refused = new ArrayList<>();
        refusedTexts(refused, sayers);
        refusedFar(refused, sayers);
        refusedPutTogether(refused, sayers);
        refusedQuarrels(refused, sayers);
        refusedLies(refused, sayers);
        if (made.made().count(2) == 300) {
            for (int n = 1; n <= 8; n++) refuse(refused, "type(.., " + n + ")", typing(n), FULL);
        }
        long[] before = Look.at(made.made());
        for (Named each : refused) {
            SayingsMerged x = made.made();
            String name = each.name + " in " + state;
            due(name, each.call.on(x), each.want);
            CHECK.dueRow("after " + name, Look.at(x), before);
        }
    }

    private static void refuse(List<Named> to, String name, Call call, long want) {
        to.add(new Named(name, call, want));
    }

    private static Call typing(int n) {
        return x -> x.type(Check.packed("&a;law b"), n);
    }

    private static int[] noSayers(int sayers) {
        return new int[] {LEAST, -1, sayers, sayers + 1, 7, 8, 64, GREATEST};
    }

    private static int[] outside(int first, int last) {
        return new int[] {LEAST, first - 1, last + 1, GREATEST};
    }

    private static void refusedTexts(List<Named> to, int sayers) {
        for (int n : outside(1, 8)) refuse(to, "type(.., " + n + ")", typing(n), BAD);
        for (int what : outside(0, 2)) refuse(to, "worlds(" + what + ", 0)", x -> x.worlds(what, 0), 0);
        for (int i : noSayers(sayers)) refuse(to, "worlds(1, " + i + ")", x -> x.worlds(1, i), 0);
        for (int what : outside(0, 4)) refuse(to, "count(" + what + ")", x -> x.count(what), BAD);
    }

    private static void refusedFar(List<Named> to, int sayers) {
        for (int letter : outside(0, 5)) refuse(to, "cost(" + letter + ", 5)", x -> x.cost(letter, 5), BAD);
        for (int letter = 0; letter < 6; letter++) {
            int l = letter;
            for (int v : outside(0, 9)) refuse(to, "cost(" + l + ", " + v + ")", x -> x.cost(l, v), BAD);
        }
        refuse(to, "cost(6, 10)", x -> x.cost(6, 10), BAD);
        for (int v : outside(0, 1)) refuse(to, "measure(" + v + ")", x -> x.measure(v), BAD);
        for (int w : outside(0, 63)) {
            refuse(to, "apart(" + w + ", 0)", x -> x.apart(w, 0), BAD);
            refuse(to, "apart(63, " + w + ")", x -> x.apart(63, w), BAD);
            refuse(to, "apart(" + w + ", " + w + ")", x -> x.apart(w, w), BAD);
            refuse(to, "burden(0, " + w + ")", x -> x.burden(0, w), BAD);
            refuse(to, "value(0, " + w + ")", x -> x.value(0, w), BAD);
            refuse(to, "value(1, " + w + ")", x -> x.value(1, w), BAD);
        }
        for (int i : noSayers(sayers)) refuse(to, "burden(" + i + ", 0)", x -> x.burden(i, 0), BAD);
    }

    private static void refusedPutTogether(List<Named> to, int sayers) {
        for (int way : outside(0, 2)) {
            refuse(to, "merged(" + way + ")", x -> x.merged(way), 0);
            refuse(to, "held(" + way + ")", x -> x.held(way), BAD);
            refuse(to, "changed(0, " + way + ")", x -> x.changed(0, way), 0);
        }
        for (int way : outside(0, 1)) refuse(to, "value(" + way + ", 0)", x -> x.value(way, 0), BAD);
        for (int i : noSayers(sayers)) {
            for (int how = 0; how < 3; how++) {
                int h = how;
                refuse(to, "changed(" + i + ", " + h + ")", x -> x.changed(i, h), 0);
            }
        }
    }

    private static void refusedQuarrels(List<Named> to, int sayers) {
        int all = 1 << sayers;
        int[] notThere = {LEAST, LEAST + 1, -1, -2, all, all + 1, 2 * all - 1, 2 * all, 128, 255, 1 << 30, GREATEST};
        for (int set : notThere) refuse(to, "quarrels(" + set + ")", x -> x.quarrels(set), BAD);
        for (int what : outside(0, 1)) {
            refuse(to, "sets(" + what + ", -1)", x -> x.sets(what, -1), BAD);
            refuse(to, "sets(" + what + ", 0)", x -> x.sets(what, 0), BAD);
            refuse(to, "share(0, " + what + ")", x -> x.share(0, what), BAD);
        }
        for (int what = 0; what < 2; what++) {
            int w = what;
            for (int k : new int[] {LEAST, -3, -2, 36, 128, GREATEST}) refuse(to, "sets(" + w + ", " + k + ")", x -> x.sets(w, k), BAD);
            refuse(to, "sets(" + w + ", how many)", x -> x.sets(w, x.sets(w, -1)), BAD);
            for (int i : noSayers(sayers)) refuse(to, "share(" + i + ", " + w + ")", x -> x.share(i, w), BAD);
        }
    }

    private static void refusedLies(List<Named> to, int sayers) {
        for (int what = 0; what < 3; what++) {
            int w = what;
            for (int i : noSayers(sayers)) refuse(to, "lie(" + i + ", 0, " + w + ")", x -> x.lie(i, 0, w), BAD);
            for (int way : outside(0, 2)) refuse(to, "lie(0, " + way + ", " + w + ")", x -> x.lie(0, way, w), BAD);
        }
        for (int what : outside(0, 2)) refuse(to, "lie(0, 0, " + what + ")", x -> x.lie(0, 0, what), BAD);
        for (int kind : outside(0, 3)) refuse(to, "worth(" + kind + ", 0)", x -> x.worth(kind, 0), BAD);
        for (int kind = 0; kind < 4; kind++) {
            int k = kind;
            for (int i : noSayers(sayers)) refuse(to, "worth(" + k + ", " + i + ")", x -> x.worth(k, i), BAD);
        }
    }

    // ---- what is taken

    /** The first and the last of one, three and seven SAYERS, each with an answer that no refused call has. */
    private static void takenSayers() {
        for (int sayers : new int[] {1, 3, 7}) {
            // All say a, so each of them is as far from a WORLD without it.
            SayingsMerged x = Check.told("law a;" + "say 2 a;".repeat(sayers));
            for (int i : new int[] {0, sayers - 1}) {
                String of = " of sayer " + i + " of " + sayers;
                due("worlds" + of, x.worlds(1, i), 0xAAAAAAAAAAAAAAAAL);
                due("burden" + of, x.burden(i, 0), 2);
                due("burden of the last world" + of, x.burden(i, 62), 2);
                due("burden with it" + of, x.burden(i, 63), 0);
                due("changed" + of, x.changed(i, 2), 0xAAAAAAAAAAAAAAAAL);
                due("share" + of, x.share(i, 0), 0);
                due("share, lower" + of, x.share(i, 1), 1);
                due("lie" + of, x.lie(i, 2, 2), 0);
                due("no lie" + of, x.lie(i, 0, 0), SayingsMerged.NONE);
                due("worth of a sayer" + of, x.worth(0, i), 32);
                due("worth of a firm one" + of, x.worth(3, i), 96);
            }
            due("all " + sayers, x.quarrels((1 << sayers) - 1), 0);
            due("free of " + sayers, x.free(), (1 << sayers) - 1);
        }
    }

    private static void takenNumbers() {
        SayingsMerged x = Check.told("law a;law 1;say 2 b;say 3 !b;");
        Check.typeAll(x, "law");
        int[] counts = {2, 2, 3, 5, 32};
        for (int what = 0; what < 5; what++) due("count(" + what + ")", x.count(what), counts[what]);
        due("value(0, 0)", x.value(0, 0), 2);
        due("value(0, 63)", x.value(0, 63), 3);
        due("value(1, 0)", x.value(1, 0), 2);
        due("value(1, 63)", x.value(1, 63), 3);
        long a = 0xAAAAAAAAAAAAAAAAL, b = 0xCCCCCCCCCCCCCCCCL;
        for (int way = 0; way < 3; way++) {
            due("merged(" + way + ")", x.merged(way), a & ~b);
            due("held(" + way + ")", x.held(way), 1);
            due("changed(0, " + way + ")", x.changed(0, way), a & b);
            due("lie(0, " + way + ", 2)", x.lie(0, way, 2), 1);
        }
        int[] worths = {16, 32, 16, 48};
        for (int kind = 0; kind < 4; kind++) due("worth(" + kind + ", 0)", x.worth(kind, 0), worths[kind]);
        due("the trace", x.trace(), 1124);
    }

    /** "COSTS (0 .. 9 each ..)", "COST of a LETTER becomes v: what it was.", "MEASURE becomes v (0, 1): what it was." */
    private static void takenCosts() {
        for (int letter = 0; letter < 6; letter++) {
            SayingsMerged x = new SayingsMerged();
            int was = 1;
            for (int v : new int[] {0, 9, 0, 1, 8}) {
                due("cost(" + letter + ", " + v + ")", x.cost(letter, v), was);
                for (int other = 0; other < 6; other++) {
                    due("letter " + other + " after it", x.apart(63, 63 ^ 1 << other), other == letter ? v : 1);
                }
                was = v;
            }
        }
        SayingsMerged y = new SayingsMerged();
        int[] measures = {0, 1, 1, 0, 0, 1};
        int was = 0;
        for (int v : measures) {
            due("measure(" + v + ")", y.measure(v), was);
            due("apart by it", y.apart(0, 63), v == 0 ? 6 : 1);
            due("apart of the same by it", y.apart(63, 63), 0);
            was = v;
        }
    }

    /** "how many (k = -1), the k-th": the 0-th and the last. */
    private static void takenSets() {
        SayingsMerged x = Check.told("say 1 a;say 1 !a;say 1 b;say 1 !b;");
        due("how many", x.sets(0, -1), 2);
        due("the first", x.sets(0, 0), 3);
        due("the last", x.sets(0, 1), 12);
        due("one more", x.sets(0, 2), BAD);
        due("how many that agree", x.sets(1, -1), 4);
        due("the first that agree", x.sets(1, 0), 5);
        due("the last that agree", x.sets(1, 3), 10);
        due("one more that agrees", x.sets(1, 4), BAD);
        due("quarrels(0)", x.quarrels(0), 0);
        due("quarrels(15)", x.quarrels(15), 1);
        due("quarrels(16)", x.quarrels(16), BAD);
        SayingsMerged nobody = new SayingsMerged();
        due("quarrels(0) of nobody", nobody.quarrels(0), 0);
        due("quarrels(1) of nobody", nobody.quarrels(1), BAD);
    }

    /** "An object is used for at most 512 calls": the 512th is answered like the others. */
    private static void lastCall() {
        SayingsMerged x = new SayingsMerged();
        x.type(Check.packed("say 9 1;"), 8);
        x.tell();
        for (int k = 0; k < 509; k++) due("worth of a firm one", x.worth(3, 0), 640);
        due("the 512th call", x.trace(), 509 * 1011);
    }
}
