/** Each promise by examples that were worked out by hand: ordinary inputs, the edges, and wrong inputs. */
public final class PromisesTest {
    private static final Check CHECK = new Check();
    private static final int BAD = SayingsMerged.BAD, FULL = SayingsMerged.FULL, NONE = SayingsMerged.NONE;
    private static final int LEAST_INT = Integer.MIN_VALUE, GREATEST_INT = Integer.MAX_VALUE;

    /**
     * WORLDS THERE are 0 .. 7. BURDENS of them, in order: by 0: 3 2 2 1 2 1 1 0; by 1: 0 2 2 4 2 4 4 6;
     * by 2: 1 0 1 0 1 0 1 0.
     */
    private static final String THREE = "law !d&!e&!f;say 1 a&b&c;say 2 !a&!b&!c;say 1 a;";
    /** WORLDS THERE are 0 .. 3. */
    private static final String PAIR = "law !c&!d;law !e&!f;say 1 a&b|!a&!b;say 9 a&b;say 1 0;";
    private static final long A = 0xAAAAAAAAAAAAAAAAL, B = 0xCCCCCCCCCCCCCCCCL, C = 0xF0F0F0F0F0F0F0F0L;
    private static final long D = 0xFF00FF00FF00FF00L, E = 0xFFFF0000FFFF0000L, F = 0xFFFFFFFF00000000L;

    public static void main(String[] args) {
        promise01NewObject();
        promise02Type();
        promise03Clear();
        promise04TellWithoutFault();
        promise04TellWithFault();
        promise04TellLimits();
        promise05Question();
        promise06Worlds();
        promise07Cost();
        promise08Measure();
        promise09Apart();
        promise10Burden();
        promise11Merged();
        promise11MergedByRows();
        promise12Value();
        promise13Held();
        promise14Changed();
        promise14ChangedAtTheEdges();
        promise15Quarrels();
        promise16Sets();
        promise17Free();
        promise18Share();
        promise19Lie();
        promise20Worth();
        promise21Count();
        promise22Trace();
        refusalsChangeNothing();
        CHECK.end("PromisesTest");
    }

    private static void due(String call, long got, long want) {
        CHECK.due(call, got, want);
    }

    private static void dueFault(String text, int place) {
        SayingsMerged x = Check.told("law a;say 7 b;");
        Check.typeAll(x, text);
        due("tell of '" + text + "'", x.tell(), -10 - place);
        due("the text stays, of '" + text + "'", x.count(2), text.length());
        due("the law stays, of '" + text + "'", x.worlds(0, 0), A);
        due("the laws stay, of '" + text + "'", x.count(0), 1);
        due("the sayer stays, of '" + text + "'", x.worlds(1, 0), B);
        due("the weights stay, of '" + text + "'", x.count(3), 7);
        due("who quarrels stays, of '" + text + "'", x.quarrels(1), 0);
        due("burdens stay, of '" + text + "'", x.burden(0, 0), 7);
    }

    private static void dueQuestionFault(String text, int place) {
        SayingsMerged x = new SayingsMerged();
        Check.ask(x, "c");
        Check.typeAll(x, text);
        due("question of '" + text + "'", x.question(), -10 - place);
        due("the text stays, of '" + text + "'", x.count(2), text.length());
        due("the question stays, of '" + text + "'", x.worlds(2, 0), C);
    }

    private static void dueSaying(String saying, long want) {
        SayingsMerged x = new SayingsMerged();
        Check.ask(x, saying);
        due("the question '" + saying + "'", x.worlds(2, 0), want);
        SayingsMerged y = Check.told("law " + saying + ";say 3 " + saying + ";");
        due("the law '" + saying + "'", y.worlds(0, 0), want);
        due("one says '" + saying + "'", y.worlds(1, 0), want);
    }

    // ---- texts

    private static void promise01NewObject() {
        SayingsMerged x = new SayingsMerged();
        due("trace() at first", x.trace(), 0);
        for (int what = 0; what < 4; what++) {
            due("count(" + what + ") at first", x.count(what), 0);
        }
        due("count(4) at first", x.count(4), 64);
        due("worlds(0, 0) at first", x.worlds(0, 0), -1);
        due("worlds(1, 0) at first", x.worlds(1, 0), 0);
        due("worlds(2, 0) at first", x.worlds(2, 0), -1);
        due("apart(0, 63) at first", x.apart(0, 63), 6);
        due("quarrels(0) at first", x.quarrels(0), 0);
        due("sets(0, -1) at first", x.sets(0, -1), 0);
        due("sets(1, -1) at first", x.sets(1, -1), 1);
        due("sets(1, 0) at first", x.sets(1, 0), 0);
        due("free() at first", x.free(), 0);
        due("value(1, 63) at first", x.value(1, 63), 0);
        for (int way = 0; way < 3; way++) {
            due("merged(" + way + ") at first", x.merged(way), -1);
            due("held(" + way + ") at first", x.held(way), 1);
        }
        for (int letter = 0; letter < 6; letter++) {
            due("cost at first", x.cost(letter, 1), 1);
        }
        due("measure at first", x.measure(0), 0);
    }

    private static void promise02Type() {
        SayingsMerged x = new SayingsMerged();
        due("type of the lowest 3 bytes", x.type(0x7A7A7A7A7A617C62L, 3), 3);
        due("question of a|b", x.question(), 1);
        due("a|b", x.worlds(2, 0), A | B);
        due("type of 8 bytes", x.type(Check.packed("!a & !b "), 8), 8);
        due("question of !a & !b", x.question(), 1);
        due("!a & !b", x.worlds(2, 0), ~A & ~B);
        due("type of bytes over 127", x.type(-1L, 8), 8);
        due("tell of bytes over 127", x.tell(), -10);
        int[] wrong = {0, -1, 9, LEAST_INT, GREATEST_INT};
        for (int n : wrong) {
            due("type(0, " + n + ")", x.type(0, n), BAD);
        }
        due("count(2) after wrong ones", x.count(2), 8);
        x.clear();
        for (int k = 1; k <= 37; k++) {
            due("type until full", x.type(Check.packed("        "), 8), 8 * k);
        }
        due("type over 300", x.type(0, 5), FULL);
        due("count(2) after FULL", x.count(2), 296);
        due("type up to 300", x.type(Check.packed("  a|"), 4), 300);
        due("type beyond 300", x.type(32, 1), FULL);
        due("BAD goes ahead of FULL", x.type(32, 9), BAD);
        due("300 bytes are read", x.question(), -310);
    }

    private static void promise03Clear() {
        SayingsMerged x = Check.told(THREE);
        due("clear of nothing", x.clear(), 0);
        Check.typeAll(x, "law a");
        due("clear", x.clear(), 5);
        due("clear again", x.clear(), 0);
        due("count(2) after clear", x.count(2), 0);
        due("sayers after clear", x.count(1), 3);
        due("empty text after clear", x.tell(), 0);
    }

    private static void promise04TellWithoutFault() {
        SayingsMerged x = new SayingsMerged();
        Check.typeAll(x, "  say 2 a ;law(b);say9!c|0;law 1 ; ");
        due("tell", x.tell(), 4);
        due("text is empty", x.count(2), 0);
        due("laws", x.count(0), 2);
        due("sayers", x.count(1), 2);
        due("weights", x.count(3), 11);
        due("THERE", x.worlds(0, 0), B);
        due("sayer 0", x.worlds(1, 0), A);
        due("sayer 1", x.worlds(1, 1), ~C);
        x.cost(0, 5);
        x.measure(1);
        Check.ask(x, "d");
        Check.typeAll(x, "say 1 f;");
        due("tell anew", x.tell(), 1);
        due("no law is left", x.worlds(0, 0), -1);
        due("one sayer is left", x.count(1), 1);
        due("sayer 0 anew", x.worlds(1, 0), F);
        due("the measure stays", x.measure(0), 1);
        due("the cost stays", x.cost(0, 1), 5);
        due("the question stays", x.worlds(2, 0), D);
        Check.typeAll(x, "   ");
        due("tell of blanks", x.tell(), 0);
        due("no sayer is left", x.count(1), 0);
        due("nobody merges to all", x.merged(2), -1);
        tellFewerAfterMany();
    }

    private static void tellFewerAfterMany() {
        SayingsMerged x = Check.told("law a;law b;law c;say 9 1;say 9 !a;say 9 0;say 9 1;say 9 1;say 9 1;say 9 1;");
        Check.typeAll(x, "say 2 a;say 3 b;");
        due("tell fewer", x.tell(), 2);
        due("THERE of no law", x.count(4), 64);
        due("weights of two", x.count(3), 5);
        due("free of two", x.free(), 3);
        due("greatest of two", x.sets(1, 0), 3);
        due("lone of two", x.worth(2, 0), 16);
        due("sum of two", x.value(0, 0), 5);
        due("share of two", x.share(1, 1), 1);
        due("no third one", x.worlds(1, 2), 0);
        due("a set with a third one", x.quarrels(4), BAD);
    }

    private static void promise04TellWithFault() {
        dueFault("l", 0);
        dueFault("la w a;", 0);
        dueFault(" lawa;", 1);
        dueFault("saya;", 0);
        dueFault("a;", 0);
        dueFault(";", 0);
        dueFault("1;", 0);
        dueFault("law a;;", 6);
        dueFault("law a;b", 6);
        dueFault("law", 3);
        dueFault("law  ", 5);
        dueFault("law a  ", 7);
        dueFault("law a|", 6);
        dueFault("law a|;", 6);
        dueFault("law a&|b;", 6);
        dueFault("law a b;", 6);
        dueFault("law ab;", 4);
        dueFault("law az;", 4);
        dueFault("law a{;", 5);
        dueFault("law a`;", 5);
        dueFault("lay a;", 0);
        dueFault("lew a;", 0);
        dueFault("saw a;", 0);
        dueFault("sax 1 a;", 0);
        dueFault("sey 1 a;", 0);
        dueFault("say 1 say;", 6);
        dueFault("says 1 a;", 0);
        dueFault("law g;", 4);
        dueFault("law A;", 4);
        dueFault("law a#;", 5);
        dueFault("law\ta;", 3);
        dueFault("law a\n;", 5);
        dueFault("law law;", 4);
        dueFault("law 2;", 4);
        dueFault("law 10;", 5);
        dueFault("law a1;", 5);
        dueFault("law ();", 5);
        dueFault("law (a;", 6);
        dueFault("law (a", 6);
        dueFault("law a);", 5);
        dueFault("law a!;", 5);
        dueFault("law !;", 5);
        dueFault("law a(b);", 5);
        dueFault("say a;", 4);
        dueFault("say 0 a;", 4);
        dueFault("say 12 a;", 5);
        dueFault("say 11 a;", 7);
        dueFault("say 1;", 5);
        dueFault("say !a;", 4);
        dueFault("say", 3);
        dueFault("say 3", 5);
        dueFault("say 1 a", 7);
        dueFault("say 1 a;law b;say 1 c;law", 25);
        dueFault("law " + (char) 0 + ";", 4);
        dueFault("law " + (char) 225 + ";", 4);
    }

    private static void promise04TellLimits() {
        String laws = "law a;law b;law c;";
        due("three laws", Check.told(laws).count(0), 3);
        due("three laws together", Check.told(laws).worlds(0, 0), A & B & C);
        dueFault(laws + " law d;", 19);
        dueFault(laws + " law", 19);
        String says = "say 1 a;say 2 b;say 3 c;say 4 d;say 5 e;say 6 f;say 7 0;";
        due("seven sayers", Check.told(says).count(1), 7);
        due("seven weights", Check.told(says).count(3), 28);
        dueFault(says + "say 1 a;", 56);
        due("seven sayers and a law", Check.told(says + "law a;").count(0), 1);
        dueSaying("!!!!!!!!a", A);
        dueSaying("((((((((b))))))))", B);
        dueSaying("!(!(!(!(c))))", C);
        dueSaying("!!!!!!!!a&!!!!!!!!b|((((((((c))))))))", A & B | C);
        dueSaying("(!!!!!!!a&(((((((b))))))))", ~A & B);
        dueFault("law !!!!!!!!!a;", 12);
        dueFault("law (((((((((a", 12);
        dueFault("law !(!(!(!( !a", 13);
        dueFault("law !(!(!(!( (a", 13);
        dueFault("law !(!(!(!(a&!a))));", 14);
        dueQuestionFault("!!!!!!!!(a)", 8);
    }

    private static void promise05Question() {
        SayingsMerged x = Check.told(THREE);
        Check.typeAll(x, " a & ( b | !c ) ");
        due("question", x.question(), 1);
        due("text is empty", x.count(2), 0);
        due("the question", x.worlds(2, 0), A & (B | ~C));
        due("sayers stay", x.count(1), 3);
        dueQuestionFault("", 0);
        dueQuestionFault("   ", 3);
        dueQuestionFault("a;", 1);
        dueQuestionFault("a b", 2);
        dueQuestionFault("law a", 0);
        dueQuestionFault("say 1 a", 0);
        dueQuestionFault("a)", 1);
        dueQuestionFault("(a", 2);
        dueQuestionFault("a&", 2);
        dueQuestionFault("a & 2", 4);
        dueQuestionFault("ab", 0);
        dueQuestionFault("a|h|#", 2);
        dueQuestionFault("a !", 2);
        // Each of the 300 bytes a TOKEN.
        SayingsMerged y = new SayingsMerged();
        Check.ask(y, "!a|" + "b|".repeat(148) + "b");
        due("a question of 300 TOKENS", y.worlds(2, 0), ~A | B);
        dueQuestionFault("a|".repeat(150), 300);
        dueQuestionFault("(a)&".repeat(74) + "(a))", 299);
    }

    private static void promise06Worlds() {
        dueSaying("a", A);
        dueSaying("b", B);
        dueSaying("c", C);
        dueSaying("d", D);
        dueSaying("e", E);
        dueSaying("f", F);
        dueSaying("0", 0);
        dueSaying("1", -1);
        dueSaying("!a&b", ~A & B);
        dueSaying("a|b&c", A | B & C);
        dueSaying("(a|b)&c", (A | B) & C);
        dueSaying("!(a|b)&c", ~(A | B) & C);
        dueSaying("!!d", D);
        dueSaying("a&b|c&d|e&f", A & B | C & D | E & F);
        dueSaying("a&b&c&d&e&f", 1L << 63);
        dueSaying("!a&!b&!c&!d&!e&!f", 1);
        SayingsMerged x = Check.told(THREE);
        due("THERE", x.worlds(0, 0), 255);
        due("THERE, whatever i is", x.worlds(0, -5), 255);
        due("the question, whatever i is", x.worlds(2, 9), -1);
        due("what he says, THERE or not", x.worlds(1, 0), A & B & C);
        due("no sayer 3", x.worlds(1, 3), 0);
        due("no sayer -1", x.worlds(1, -1), 0);
        due("no sayer so great", x.worlds(1, GREATEST_INT), 0);
        due("no such thing 3", x.worlds(3, 0), 0);
        due("no such thing -1", x.worlds(-1, 0), 0);
    }

    // ---- far

    private static void promise07Cost() {
        SayingsMerged x = Check.told("say 2 a&f;");
        due("burden ahead of costs", x.burden(0, 0), 4);
        due("cost(0, 9)", x.cost(0, 9), 1);
        due("cost(5, 0)", x.cost(5, 0), 1);
        due("burden by costs", x.burden(0, 0), 18);
        due("apart by costs", x.apart(0, 63), 13);
        due("apart by a cost of 0", x.apart(0, 32), 0);
        due("a letter 6", x.cost(6, 1), BAD);
        due("a letter -1", x.cost(-1, 1), BAD);
        due("a cost of 10", x.cost(0, 10), BAD);
        due("a cost of -1", x.cost(0, -1), BAD);
        due("a letter so small", x.cost(LEAST_INT, 1), BAD);
        due("cost(0, 9) again", x.cost(0, 9), 9);
        due("cost(5, 3)", x.cost(5, 3), 0);
        due("apart anew", x.apart(0, 32), 3);
        x.measure(1);
        due("cost by the other measure", x.cost(5, 8), 3);
        due("apart by the other measure", x.apart(0, 32), 1);
        x.measure(0);
        due("the cost told meanwhile", x.apart(0, 32), 8);
    }

    private static void promise08Measure() {
        SayingsMerged x = Check.told("say 4 a&b;");
        due("measure(1)", x.measure(1), 0);
        due("measure(1) again", x.measure(1), 1);
        due("burden by measure 1", x.burden(0, 0), 4);
        due("measure(2)", x.measure(2), BAD);
        due("measure(-1)", x.measure(-1), BAD);
        due("measure(0)", x.measure(0), 1);
        due("burden by measure 0", x.burden(0, 0), 8);
    }

    private static void promise09Apart() {
        SayingsMerged x = new SayingsMerged();
        for (int letter = 0; letter < 6; letter++) {
            x.cost(letter, letter + 2);
        }
        due("apart of the same", x.apart(41, 41), 0);
        due("apart of one letter", x.apart(0, 4), 4);
        due("apart the other way", x.apart(4, 0), 4);
        due("apart of three letters", x.apart(21, 56), 2 + 4 + 5 + 7);
        due("apart of all", x.apart(0, 63), 27);
        x.measure(1);
        due("the same by measure 1", x.apart(63, 63), 0);
        due("one letter by measure 1", x.apart(63, 62), 1);
        due("all letters by measure 1", x.apart(0, 63), 1);
        due("no world 64", x.apart(64, 0), BAD);
        due("no other world 64", x.apart(0, 64), BAD);
        due("no world -1", x.apart(-1, 0), BAD);
        due("no other world -1", x.apart(0, -1), BAD);
    }

    private static void promise10Burden() {
        SayingsMerged x = Check.told("law !a;say 3 a&b|c&d&e;say 5 0;say 9 1;");
        due("a world with it", x.burden(0, 3), 0);
        due("the nearest world is not THERE", x.burden(0, 0), 6);
        due("the other part is nearer", x.burden(0, 12), 3);
        due("a saying so in none", x.burden(1, 17), 0);
        due("a saying so in all", x.burden(2, 17), 0);
        x.cost(0, 9);
        x.cost(1, 9);
        due("by costs the other part is nearer", x.burden(0, 0), 9);
        x.cost(2, 9);
        x.cost(3, 9);
        x.cost(4, 9);
        due("the nearer one of two", x.burden(0, 0), 54);
        x.measure(1);
        due("by measure 1", x.burden(0, 0), 3);
        due("by measure 1 with it", x.burden(0, 28), 0);
        due("by measure 1 a saying so in none", x.burden(1, 28), 0);
        due("no sayer 3", x.burden(3, 0), BAD);
        due("no sayer -1", x.burden(-1, 0), BAD);
        due("no world 64", x.burden(0, 64), BAD);
        due("no world -1", x.burden(0, -1), BAD);
        SayingsMerged y = Check.told("say 9 a&b&c&d&e&f;");
        for (int letter = 0; letter < 6; letter++) {
            y.cost(letter, 9);
        }
        due("the greatest burden", y.burden(0, 0), 486);
    }

    // ---- put together

    private static void promise11Merged() {
        SayingsMerged x = Check.told(THREE);
        due("by sums", x.merged(0), Check.set(0, 1));
        due("by the worst", x.merged(1), Check.set(1, 2, 4));
        due("by rows", x.merged(2), Check.set(1));
        due("no way 3", x.merged(3), 0);
        due("no way -1", x.merged(-1), 0);
        x.cost(0, 0);
        due("by sums, a costs nothing", x.merged(0), Check.set(0, 1));
        due("by the worst, a costs nothing", x.merged(1), Check.set(0, 1, 2, 3, 4, 5));
        due("by rows, a costs nothing", x.merged(2), Check.set(0, 1));
        x.measure(1);
        due("by sums, measure 1", x.merged(0), Check.set(0, 7));
        due("by the worst, measure 1", x.merged(1), Check.set(0));
        due("by rows, measure 1", x.merged(2), Check.set(0));
        SayingsMerged none = Check.told("law a;law !a;say 1 b;");
        SayingsMerged nobody = Check.told("law a;");
        for (int way = 0; way < 3; way++) {
            due("no world THERE", none.merged(way), 0);
            due("nobody says a thing", nobody.merged(way), A);
        }
    }

    /** Seven sayers with the greatest burdens there can be, in two worlds. */
    private static void promise11MergedByRows() {
        String all = "a&b&c&d&e&f", no = "!a&!b&!c&!d&!e&!f";
        String law = "law " + all + "|" + no + "|a&!b&!c&!d&!e&!f;";
        StringBuilder text = new StringBuilder(law);
        for (int k = 0; k < 4; k++) {
            text.append("say 9 ").append(all).append(';');
        }
        for (int k = 0; k < 3; k++) {
            text.append("say 9 ").append(no).append(';');
        }
        SayingsMerged x = Check.told(text.toString());
        for (int letter = 0; letter < 6; letter++) {
            x.cost(letter, 9);
        }
        due("the greatest sum", x.value(0, 0), 4 * 486);
        due("the greatest worst", x.value(1, 0), 486);
        due("by sums", x.merged(0), Check.set(63));
        due("by the worst", x.merged(1), Check.set(1));
        due("by rows", x.merged(2), Check.set(1));
        x.measure(1);
        due("by rows, measure 1", x.merged(2), Check.set(63));
        // Rows 280 0 0 and 279 279 0.
        SayingsMerged wide = Check.told("law !f&(a&b&c&d&e|!a&!b&!c&!d&!e);say 8 a&b&c&d;say 9 !a&!b&!c&!e;say 9 !a&!b&!c&!e;");
        int[] costs = {9, 9, 9, 8, 4};
        for (int letter = 0; letter < 5; letter++) {
            wide.cost(letter, costs[letter]);
        }
        due("wide by rows", wide.merged(2), Check.set(31));
        due("wide by sums", wide.merged(0), Check.set(0));
        // Rows that differ in the seventh alone.
        SayingsMerged last = Check.told("law !b&!c&!d&!e&!f;say 1 b;say 1 b;say 1 b;say 1 b;say 1 b;say 1 b;say 1 a;");
        due("the last of seven", last.merged(2), Check.set(1));
        due("not by the worst", last.merged(1), Check.set(0, 1));
        // BURDENS 1 and 3 against 4 and 0: the greater one comes later.
        SayingsMerged later = Check.told("law !b&!c&!d&!e&!f;say 1 !a&b;say 1 a;");
        later.cost(0, 3);
        due("the greater one later", later.merged(2), Check.set(0));
    }

    private static void promise12Value() {
        SayingsMerged x = Check.told(THREE);
        int[] sums = {4, 4, 5, 5, 5, 5, 6, 6};
        int[] worst = {3, 2, 2, 4, 2, 4, 4, 6};
        for (int w = 0; w < 8; w++) {
            due("the sum of world " + w, x.value(0, w), sums[w]);
            due("the greatest of world " + w, x.value(1, w), worst[w]);
        }
        due("the sum of a world not THERE", x.value(0, 56), 4);
        due("the greatest of a world not THERE", x.value(1, 63), 6);
        due("no value of way 2", x.value(2, 0), BAD);
        due("no value of way -1", x.value(-1, 0), BAD);
        due("no world 64", x.value(0, 64), BAD);
        due("no world -1", x.value(1, -1), BAD);
    }

    private static void promise13Held() {
        SayingsMerged x = Check.told(THREE);
        Check.ask(x, "a");
        due("a by sums", x.held(0), 0);
        due("a by the worst", x.held(1), 0);
        due("a by rows", x.held(2), 1);
        Check.ask(x, "!b&!c");
        due("!b&!c by sums", x.held(0), 1);
        due("!b&!c by the worst", x.held(1), 0);
        Check.ask(x, "0");
        due("never so", x.held(2), 0);
        due("no way 3", x.held(3), BAD);
        due("no way -1", x.held(-1), BAD);
        SayingsMerged none = Check.told("law 0;say 1 a;");
        Check.ask(none, "0");
        due("held in all of none", none.held(0), 1);
    }

    private static void promise14Changed() {
        SayingsMerged x = Check.told(PAIR);
        Check.ask(x, "a");
        due("with: the nearest to the saying", x.changed(0, 0), Check.set(3));
        due("along: the nearest to each world", x.changed(0, 1), Check.set(1, 3));
        due("let go", x.changed(0, 2), Check.set(0, 3));
        due("let go of a by a&b", x.changed(1, 2), Check.set(2, 3));
        Check.ask(x, "!a");
        due("with !a", x.changed(1, 0), Check.set(2));
        due("along with !a", x.changed(1, 1), Check.set(2));
        due("let go of !a by a&b", x.changed(1, 2), Check.set(3));
        x.cost(0, 3);
        x.cost(1, 2);
        Check.ask(x, "!(a&b)");
        due("with costs", x.changed(1, 0), Check.set(1));
        due("along with costs", x.changed(1, 1), Check.set(1));
        x.measure(1);
        due("with, measure 1", x.changed(1, 0), Check.set(0, 1, 2));
        due("along, measure 1", x.changed(0, 1), Check.set(0, 1, 2));
        Check.ask(x, "a&b");
        due("let go, measure 1", x.changed(1, 2), Check.set(0, 1, 2, 3));
        due("no sayer 3", x.changed(3, 0), 0);
        due("no sayer -1", x.changed(-1, 0), 0);
        due("no how 3", x.changed(0, 3), 0);
        due("no how -1", x.changed(0, -1), 0);
    }

    private static void promise14ChangedAtTheEdges() {
        SayingsMerged x = Check.told(PAIR);
        Check.ask(x, "a");
        due("so in none, with: all are as far", x.changed(2, 0), Check.set(1, 3));
        due("so in none, along", x.changed(2, 1), 0);
        due("so in none, let go: all are as far", x.changed(2, 2), Check.set(0, 2));
        Check.ask(x, "f");
        due("with what is nowhere THERE", x.changed(1, 0), 0);
        due("along with what is nowhere THERE", x.changed(1, 1), 0);
        due("let go of what is nowhere THERE", x.changed(1, 2), Check.set(3));
        Check.ask(x, "1");
        due("let go of what is always so", x.changed(1, 2), Check.set(3));
        SayingsMerged y = Check.told("law a&!c&!d&!e&!f;say 1 !a;");
        due("with, from worlds not THERE", y.changed(0, 0), Check.set(1, 3));
        due("along, from worlds not THERE", y.changed(0, 1), Check.set(1, 3));
        Check.ask(y, "!b");
        due("let go, from worlds not THERE", y.changed(0, 2), Check.set(3));
        SayingsMerged first = Check.told("law a&!b;say 1 !a&!b&!c&!d&!e&!f;");
        due("along, from the first world alone", first.changed(0, 1), Check.set(1));
        SayingsMerged z = Check.told("law 0;say 1 a;");
        for (int how = 0; how < 3; how++) {
            due("no world THERE", z.changed(0, how), 0);
        }
    }

    // ---- quarrels

    private static void promise15Quarrels() {
        SayingsMerged x = Check.told(THREE);
        int[] wants = {0, 0, 0, 1, 0, 0, 1, 1};
        for (int set = 0; set < 8; set++) {
            due("quarrels(" + set + ")", x.quarrels(set), wants[set]);
        }
        due("one that is not there", x.quarrels(8), BAD);
        due("one of two is not there", x.quarrels(9), BAD);
        due("a set below 0", x.quarrels(-1), BAD);
        due("the least number", x.quarrels(LEAST_INT), BAD);
        SayingsMerged y = Check.told("law !a;say 1 a;say 1 b;");
        due("one quarrels with the law", y.quarrels(1), 1);
        due("another does not", y.quarrels(2), 0);
        due("none without a world THERE", Check.told("law 0;").quarrels(0), 1);
    }

    private static void dueSets(String of, SayingsMerged x, int what, int... wants) {
        due("how many " + of, x.sets(what, -1), wants.length);
        for (int k = 0; k < wants.length; k++) {
            due("sets(" + what + ", " + k + ") " + of, x.sets(what, k), wants[k]);
        }
        due("one more " + of, x.sets(what, wants.length), BAD);
        due("many more " + of, x.sets(what, GREATEST_INT), BAD);
    }

    private static void promise16Sets() {
        SayingsMerged x = Check.told(THREE);
        dueSets("of three", x, 0, 3, 6);
        dueSets("of three", x, 1, 5, 2);
        due("no what 2", x.sets(2, 0), BAD);
        due("no what -1", x.sets(-1, -1), BAD);
        due("k = -2", x.sets(0, -2), BAD);
        due("k so small", x.sets(1, LEAST_INT), BAD);
        SayingsMerged y = Check.told("say 1 a;say 1 b;say 1 !a|!b;say 1 0;say 1 c;say 1 !c;");
        dueSets("by how many", y, 0, 8, 48, 7);
        dueSets("by how many", y, 1, 19, 21, 22, 35, 37, 38);
        SayingsMerged none = Check.told("law 0;say 1 a;say 1 b;");
        dueSets("without a world", none, 0, 0);
        dueSets("without a world", none, 1);
        SayingsMerged one = Check.told("say 1 a;say 1 b;");
        dueSets("without a quarrel", one, 0);
        dueSets("without a quarrel", one, 1, 3);
    }

    private static void promise17Free() {
        due("all of three quarrel", Check.told(THREE).free(), 0);
        due("one is free", Check.told(THREE + "say 1 b|!b;").free(), 8);
        due("those in none", Check.told("say 1 a;say 1 d;say 1 !a;say 1 0;say 1 e;").free(), 2 + 16);
        due("without a world THERE", Check.told("law 0;say 1 a;say 1 !a;").free(), 3);
        due("without a quarrel", Check.told("say 1 a;say 1 b;").free(), 3);
    }

    private static void dueShare(String of, SayingsMerged x, int i, int upper, int lower) {
        due("upper number of " + i + " " + of, x.share(i, 0), upper);
        due("lower number of " + i + " " + of, x.share(i, 1), lower);
    }

    private static void promise18Share() {
        SayingsMerged x = Check.told(THREE);
        dueShare("of three", x, 0, 1, 6);
        dueShare("of three", x, 1, 2, 3);
        dueShare("of three", x, 2, 1, 6);
        due("no sayer 3", x.share(3, 0), BAD);
        due("no sayer -1", x.share(-1, 1), BAD);
        due("no what 2", x.share(0, 2), BAD);
        due("no what -1", x.share(0, -1), BAD);
        SayingsMerged seven = Check.told("say 1 a;say 1 !a;say 1 b;say 1 c;say 1 d;say 1 e;say 1 f;");
        dueShare("of seven", seven, 0, 1, 2);
        dueShare("of seven", seven, 1, 1, 2);
        dueShare("of seven", seven, 6, 0, 1);
        SayingsMerged none = Check.told("law 0;say 1 a;say 1 0;");
        dueShare("without a world THERE", none, 0, 0, 1);
        dueShare("without a world THERE", none, 1, 0, 1);
        SayingsMerged alone = Check.told("say 1 0;say 1 a;say 1 !a;");
        dueShare("of one who quarrels alone", alone, 0, 2, 3);
        dueShare("of one beside him", alone, 1, 1, 6);
    }

    private static void dueLie(String of, SayingsMerged x, int i, int way, int term, int loss, int trueLoss) {
        String call = "lie(" + i + ", " + way + ", ";
        due(call + "0) " + of, x.lie(i, way, 0), term);
        due(call + "1) " + of, x.lie(i, way, 1), loss);
        due(call + "2) " + of, x.lie(i, way, 2), trueLoss);
    }

    private static void promise19Lie() {
        // WORLDS THERE are 0 and 1: only by saying a&b he draws the others to a.
        SayingsMerged x = Check.told("law !b&!c&!d&!e&!f;say 1 a;say 1 !a;");
        dueLie("by sums", x, 0, 0, NONE, NONE, 1);
        dueLie("by the worst", x, 0, 1, 64 * 3, 0, 1);
        dueLie("by rows", x, 0, 2, 64 * 3, 0, 1);
        dueLie("of the other", x, 1, 1, 64 * 2 + 1, 0, 1);
        x.cost(0, 3);
        dueLie("by cost", x, 0, 1, 64 * 3, 0, 3);
        x.measure(1);
        dueLie("by measure 1", x, 0, 1, NONE, NONE, 1);
        x.measure(0);
        x.cost(0, 1);
        due("told anew by the worst", x.lie(0, 1, 0), 64 * 3);
        due("the sayer is as he was", x.worlds(1, 0), A);
        due("the burdens are as they were", x.burden(0, 0), 1);
        SayingsMerged part = Check.told("law !d&!e&!f;say 2 !c&!b;say 2 b&c;say 3 a&c|!c;");
        dueLie("that gains a part", part, 0, 0, 5, 1, 2);
        SayingsMerged weighty = Check.told("law !b&!c&!d&!e&!f;say 2 a;say 5 !a;");
        dueLie("by weight", weighty, 0, 1, 64 * 7, 0, 1);
        SayingsMerged none = Check.told("law 0;say 1 a;");
        dueLie("without a world", none, 0, 0, NONE, NONE, 0);
        dueLie("of one who says nothing that is so", Check.told("say 1 0;say 1 a;"), 0, 1, NONE, NONE, 0);
        int[][] wrong = {{2, 0, 0}, {-1, 0, 0}, {0, 3, 0}, {0, -1, 0}, {0, 0, 3}, {0, 0, -1}};
        for (int[] w : wrong) {
            due("lie(" + w[0] + ", " + w[1] + ", " + w[2] + ")", x.lie(w[0], w[1], w[2]), BAD);
        }
    }

    private static void promise20Worth() {
        SayingsMerged x = Check.told(THREE);
        int[][] wants = {{1, 1, 4}, {1, 2, 4}, {0, 1, 3}, {3, 4, 6}};
        for (int kind = 0; kind < 4; kind++) {
            for (int i = 0; i < 3; i++) {
                due("worth(" + kind + ", " + i + ")", x.worth(kind, i), wants[kind][i]);
            }
        }
        due("no kind 4", x.worth(4, 0), BAD);
        due("no kind -1", x.worth(-1, 0), BAD);
        due("no sayer 3", x.worth(0, 3), BAD);
        due("no sayer -1", x.worth(3, -1), BAD);
        due("the greatest worth", Check.told("say 9 1;").worth(3, 0), 64 * 9 + 64);
        due("alone he loses nothing", Check.told("say 9 1;").worth(2, 0), 64);
    }

    private static void promise21Count() {
        SayingsMerged x = Check.told("law a;law b|a;say 9 c;say 8 d;say 7 0;");
        Check.typeAll(x, "law");
        int[] wants = {2, 3, 3, 24, 32};
        for (int what = 0; what < 5; what++) {
            due("count(" + what + ")", x.count(what), wants[what]);
        }
        due("no count 5", x.count(5), BAD);
        due("no count -1", x.count(-1), BAD);
        due("no world THERE", Check.told("law 0;").count(4), 0);
    }

    private static void promise22Trace() {
        SayingsMerged x = Check.told(THREE);
        int[] adds = {1, 11, 101, 1011};
        long sum = 0;
        for (int k = 0; k < 8; k++) {
            x.worth(k % 4, 1);
            sum += adds[k % 4];
            due("trace() after " + (k + 1), x.trace(), sum);
        }
        x.worth(4, 0);
        x.worth(-1, 0);
        x.worth(3, 3);
        x.worth(0, -1);
        x.merged(0);
        x.lie(0, 0, 0);
        due("trace() after wrong ones", x.trace(), sum);
        x.tell();
        x.clear();
        due("trace() after tell", x.trace(), sum);
    }

    /** Wrong calls of all kinds between two looks at the whole state. */
    private static void refusalsChangeNothing() {
        SayingsMerged x = Check.told(THREE);
        Check.typeAll(x, "law a");
        int[] odd = {-1, 64, 8, LEAST_INT, GREATEST_INT};
        for (int v : odd) {
            x.type(0, v == 8 ? 9 : v);
            x.worlds(v, v);
            x.cost(v, 0);
            x.cost(0, v == 8 ? 10 : v);
            x.measure(v);
            x.apart(v == 8 ? 64 : v, 0);
            x.burden(v, v);
            x.merged(v);
            x.value(v, v);
            x.held(v);
            x.changed(v, v);
            x.quarrels(v);
            x.sets(v, v);
            x.share(v, v);
            x.lie(v, v, v);
            x.worth(v, v);
            x.count(v);
        }
        due("trace", x.trace(), 0);
        due("text", x.count(2), 5);
        due("tell", x.tell(), -15);
        due("sayers", x.count(1), 3);
        due("weights", x.count(3), 4);
        due("apart", x.apart(0, 63), 6);
        due("measure", x.measure(0), 0);
        due("by the worst", x.merged(1), Check.set(1, 2, 4));
        due("the question", x.worlds(2, 0), -1);
    }
}
