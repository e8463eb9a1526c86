/** Part 1 of the document and promises 1 to 6: each sentence with a boundary in it, and both sides of it. */
public final class BoundariesOfTextsTest {
    private static final Check CHECK = new Check();
    private static final int BAD = SayingsMerged.BAD, FULL = SayingsMerged.FULL;
    private static final long[] LETTERS = {
        0xAAAAAAAAAAAAAAAAL, 0xCCCCCCCCCCCCCCCCL, 0xF0F0F0F0F0F0F0F0L,
        0xFF00FF00FF00FF00L, 0xFFFF0000FFFF0000L, 0xFFFFFFFF00000000L
    };
    private static final long A = LETTERS[0], B = LETTERS[1], C = LETTERS[2], D = LETTERS[3];
    private static final int NO_FAULT = -1;

    public static void main(String[] args) {
        newObject();
        lettersAndWorlds();
        eightOpenInOneAnother();
        ninthThatIsOpen();
        whatIsClosedDoesNotCount();
        threeHundredBytes();
        textsOfThreeHundredBytesAreRead();
        everyByteAlone();
        everyByteWithinAnItem();
        everyByteWithinASay();
        blanks();
        itemsAreEnded();
        threeLaws();
        sevenSayers();
        weights();
        figures();
        words();
        firstFault();
        textsThatEndTooEarly();
        textsThatEndTooEarlyGoOn();
        faultsChangeNothing();
        questionFaultsChangeNothing();
        there();
        toldAnew();
        whatIsNotToldStays();
        type();
        clear();
        question();
        worlds();
        CHECK.end("BoundariesOfTextsTest");
    }

    private static void due(String call, long got, long want) {
        CHECK.due(call, got, want);
    }

    private static SayingsMerged typed(String text) {
        SayingsMerged x = new SayingsMerged();
        Check.typeAll(x, text);
        return x;
    }

    /** One with something of everything in it, so that a change would be seen, and the text. */
    private static SayingsMerged rich(String text) {
        SayingsMerged x = Check.told("law a|b;law !f;say 2 a;say 9 b&c;say 4 !a;say 1 0;");
        x.cost(1, 4);
        x.cost(2, 0);
        Check.ask(x, "b|d");
        x.worth(3, 1);
        Check.typeAll(x, text);
        return x;
    }

    /** The fault of a text that is told, which changes nothing, or else how many ITEMS it has. */
    private static void dueTell(String text, int fault, int items) {
        SayingsMerged x = rich(text);
        due("tell of '" + text + "'", x.tell(), fault == NO_FAULT ? items : -10 - fault);
        if (fault != NO_FAULT) dueAsItWas(x, text);
    }

    private static void dueAsItWas(SayingsMerged x, String text) {
        CHECK.dueRow("after the fault of '" + text + "'", Look.brieflyAt(x), Look.brieflyAt(rich(text)));
    }

    private static void dueFault(String text, int fault) {
        dueTell(text, fault, 0);
    }

    private static void dueQuestion(String text, int fault) {
        SayingsMerged x = rich(text);
        due("question of '" + text + "'", x.question(), fault == NO_FAULT ? 1 : -10 - fault);
        if (fault != NO_FAULT) dueAsItWas(x, text);
    }

    private static void dueSaying(String saying, long want) {
        SayingsMerged x = new SayingsMerged();
        Check.ask(x, saying);
        due("the question '" + saying + "'", x.worlds(2, 0), want);
        SayingsMerged y = Check.told("law " + saying + ";say 3 " + saying + ";");
        due("the law '" + saying + "'", y.worlds(0, 0), want);
        due("one says '" + saying + "'", y.worlds(1, 0), want);
    }

    private static void dueSayingFault(String saying, int fault) {
        dueQuestion(saying, fault);
        dueFault("law " + saying, 4 + fault);
        dueFault("say 3 " + saying, 6 + fault);
    }

    /** "No laws, no SAYERS, MEASURE 0." and "(1 at first)" of the QUESTION and of COSTS. */
    private static void newObject() {
        SayingsMerged x = new SayingsMerged();
        due("no laws", x.count(0), 0);
        due("no sayers", x.count(1), 0);
        due("no bytes", x.count(2), 0);
        due("no weights", x.count(3), 0);
        due("all worlds", x.count(4), 64);
        due("the question is 1", x.worlds(2, 0), -1);
        due("the trace is 0", x.trace(), 0);
        for (int letter = 0; letter < 6; letter++) due("a cost at first", x.apart(0, 1 << letter), 1);
        due("the measure is 0", x.measure(1), 0);
    }

    /** "LETTERS are a .. f (0 .. 5); WORLDS 0 .. 63: bit i: LETTER i is so." */
    private static void lettersAndWorlds() {
        for (int letter = 0; letter < 6; letter++) {
            long so = 0;
            for (int world = 0; world < 64; world++) so |= (long) (world >> letter & 1) << world;
            dueSaying(String.valueOf((char) ('a' + letter)), so);
        }
        dueSaying("!a&!b&!c&!d&!e&!f", 1);
        dueSaying("a&b&c&d&e&f", Long.MIN_VALUE);
        dueSayingFault("`", 0);
        dueSayingFault("g", 0);
        dueSayingFault("z", 0);
        dueSayingFault("{", 0);
        dueSayingFault("A", 0);
    }

    private static String opened(int pattern, int size) {
        StringBuilder s = new StringBuilder();
        for (int k = 0; k < size; k++) s.append((pattern >> k & 1) == 0 ? '!' : '(');
        return s.toString();
    }

    /** "(8 ! and ( open in one another at most)": however they are mixed. */
    private static void eightOpenInOneAnother() {
        for (int pattern = 0; pattern < 256; pattern++) {
            int brackets = Integer.bitCount(pattern);
            String saying = opened(pattern, 8) + "a" + ")".repeat(brackets);
            dueSaying(saying, brackets % 2 == 0 ? A : ~A);
        }
    }

    /** "FAULT: .. (.. a ninth that is open, too)". */
    private static void ninthThatIsOpen() {
        for (int pattern = 0; pattern < 512; pattern++) {
            String saying = opened(pattern, 9) + "a" + ")".repeat(Integer.bitCount(pattern));
            dueSayingFault(saying, 8);
        }
        dueSayingFault("!!!!!!!! !", 9);
        dueSayingFault("(((((((( (", 9);
        dueSayingFault("((((((((a|!", 10);
        dueSayingFault("((((((((a&(", 10);
        dueSayingFault("((((((((a)&!!", 12);
        dueSayingFault("a|b&!(!(!(!((", 12);
    }

    private static void whatIsClosedDoesNotCount() {
        dueSaying("!!!!!!!!a&!!!!!!!b", A & ~B);
        dueSaying("((((((((a))))))))&((((((((b))))))))", A & B);
        dueSaying("((((((((a)&!b)))))))", A & ~B);
        dueSaying("((((((((a)&(b))))))))", A & B);
        dueSaying("(a)&(a)&(a)&(a)&(a)&(a)&(a)&(a)&(a)&(b)", A & B);
        dueSaying("!a|!a|!a|!a|!a|!a|!a|!a|!a|!b", ~A | ~B);
        dueSaying("!!!!!!!(a|b)&(((((((!c)))))))", ~(A | B) & ~C);
        // Each ITEM begins with none that is open.
        SayingsMerged x = Check.told("law !!!!!!!!a;law !!!!!!!!b;say 1 !!!!!!!!c;say 1 ((((((((d))))))));");
        due("two laws", x.worlds(0, 0), A & B);
        due("two sayers", x.worlds(1, 1), D);
    }

    // ---- bytes

    private static String blanksUpTo(int length, String end) {
        return " ".repeat(length - end.length()) + end;
    }

    /** "A TEXT (300 bytes at most)": the last length that is taken for each n, and the first that is not. */
    private static void threeHundredBytes() {
        for (int n = 1; n <= 8; n++) {
            SayingsMerged x = typed(blanksUpTo(300 - n, "!"));
            due("type of " + n + " up to 300", x.type(Check.packed("(a|b  ) ".substring(0, n)), n), 300);
            due("count(2) of 300", x.count(2), 300);
            String text = blanksUpTo(301 - n, "c");
            SayingsMerged y = typed(text);
            due("type of " + n + " up to 301", y.type(Check.packed("|a      ".substring(0, n)), n), FULL);
            CHECK.dueRow("after FULL of " + n, Look.at(y), Look.at(typed(text)));
            due("the same bytes after FULL of " + n, asked(y, text), C);
        }
        SayingsMerged z = typed(blanksUpTo(300, "a"));
        for (int n = 1; n <= 8; n++) due("type of " + n + " when full", z.type(-1L, n), FULL);
        due("type of 0 when full: BAD is first", z.type(0, 0), BAD);
        due("type of 9 when full: BAD is first", z.type(0, 9), BAD);
        CHECK.dueRow("a full one", Look.at(z), Look.at(typed(blanksUpTo(300, "a"))));
    }

    private static long asked(SayingsMerged x, String text) {
        x.clear();
        Check.ask(x, text);
        return x.worlds(2, 0);
    }

    private static void textsOfThreeHundredBytesAreRead() {
        SayingsMerged x = typed(blanksUpTo(300, "law a&b;say 9 c;"));
        due("tell of 300 bytes", x.tell(), 2);
        due("THERE of 300 bytes", x.worlds(0, 0), A & B);
        due("the sayer of 300 bytes", x.worlds(1, 0), C);
        dueFault(blanksUpTo(300, "law a&b;say 9 c"), 300);
        dueFault(blanksUpTo(300, "law a&b;say 9 cc;"), 297);
        dueFault(blanksUpTo(300, ";"), 299);
        dueFault(blanksUpTo(300, "law"), 300);
        dueFault("z".repeat(300), 0);
        dueFault("law ".repeat(75), 4);
        dueTell(" ".repeat(300), NO_FAULT, 0);
        dueQuestion(" ".repeat(300), 300);
        dueQuestion(blanksUpTo(300, "f"), NO_FAULT);
        dueQuestion("a&" + "1&".repeat(148) + "b!", 299);
        dueQuestion("a&" + "1&".repeat(149), 300);
        Check.ask(x, "a&" + "1&".repeat(148) + " b");
        due("a question of 299 TOKENS", x.worlds(2, 0), A & B);
        Check.ask(x, "!a&" + "1&".repeat(148) + "b");
        due("a question of 300 TOKENS", x.worlds(2, 0), ~A & B);
    }

    private static boolean isAnyOf(int b, String bytes) {
        return bytes.indexOf(b) >= 0;
    }

    /** "blanks (32) between TOKENS", "a byte that begins none": all 256 bytes, each a text by itself. */
    private static void everyByteAlone() {
        for (int b = 0; b < 256; b++) {
            String text = String.valueOf((char) b);
            int asQuestion = isAnyOf(b, "abcdef01") ? NO_FAULT : isAnyOf(b, "!( ") ? 1 : 0;
            dueQuestion(text, asQuestion);
            dueTell(text, b == ' ' ? NO_FAULT : 0, 0);
            dueTell("law a;" + text, b == ' ' ? NO_FAULT : 6, 1);
            dueTell(text + "law a;", b == ' ' ? NO_FAULT : 0, 1);
        }
    }

    private static boolean isSmall(int b) {
        return b >= 'a' && b <= 'z';
    }

    private static void everyByteWithinAnItem() {
        for (int b = 0; b < 256; b++) {
            int ahead = isAnyOf(b, " !") ? NO_FAULT : isSmall(b) ? 0 : b == '(' ? 5 : isAnyOf(b, "01") ? 4 : 3;
            dueTell("law" + (char) b + "a;", ahead, 1);
            int behind = b == ' ' ? NO_FAULT : isSmall(b) ? 4 : isAnyOf(b, "|&;") ? 6 : 5;
            dueTell("law a" + (char) b + ";", behind, 1);
            int between = isAnyOf(b, "|&") ? NO_FAULT : isAnyOf(b, " ;") ? 6 : isSmall(b) ? 4 : 5;
            dueTell("law a" + (char) b + "b;", between, 1);
            int last = b == ';' ? NO_FAULT : isAnyOf(b, " |&") ? 6 : isSmall(b) ? 4 : 5;
            dueTell("law a" + (char) b, last, 1);
        }
    }

    private static void everyByteWithinASay() {
        for (int b = 0; b < 256; b++) {
            int weight = isAnyOf(b, "123456789") ? NO_FAULT : isSmall(b) ? 0 : b == ' ' ? 4 : 3;
            dueTell("say" + (char) b + "a;", weight, 1);
            int saying = isAnyOf(b, "abcdef01") ? NO_FAULT : isAnyOf(b, " !(") ? 6 : 5;
            dueTell("say 5" + (char) b + ";", saying, 1);
        }
    }

    private static void blanks() {
        SayingsMerged x = typed("   law   !   (  a  |  b  )  ;   say   7   c   &   1   ;   ");
        due("many blanks", x.tell(), 2);
        due("the law", x.worlds(0, 0), ~(A | B));
        due("the sayer", x.worlds(1, 0), C);
        SayingsMerged y = typed("law!(a|b);say7c&1;");
        due("no blanks", y.tell(), 2);
        due("the law without blanks", y.worlds(0, 0), ~(A | B));
        due("the sayer without blanks", y.worlds(1, 0), C);
        dueFault("l aw a;", 0);
        dueFault("sa y 1 a;", 0);
        dueFault("lawa;", 0);
        dueFault("law a b;", 6);
        dueFault("law a1;", 5);
        dueFault("law 1a;", 5);
        dueFault("law a law b;", 6);
        dueTell("law a;law b;", NO_FAULT, 2);
        dueTell("law 1;say 1 1;", NO_FAULT, 2);
    }

    // ---- items

    /** "ITEMS, each ended by ;". */
    private static void itemsAreEnded() {
        dueTell("", NO_FAULT, 0);
        dueTell("  ", NO_FAULT, 0);
        dueTell("law a;", NO_FAULT, 1);
        dueFault("law a", 5);
        dueFault(";", 0);
        dueFault("law a;;", 6);
        dueFault("law a; ;", 7);
        dueFault("law a;say 1 b", 13);
        dueFault("law ;", 4);
        dueFault("say ;", 4);
        dueFault("say 1;", 5);
        dueFault("law a);", 5);
        dueFault("law (a;);", 6);
        dueTell("law a;law b;law c;" + "say 1 a;".repeat(7), NO_FAULT, 10);
        dueTell("say 1 a;law a;".repeat(3) + "say 1 a;".repeat(4), NO_FAULT, 10);
    }

    /** "law SAYING (3 at most)", "a fourth law". */
    private static void threeLaws() {
        for (int laws = 0; laws <= 3; laws++) {
            SayingsMerged x = typed("law a;".repeat(laws));
            due("tell of laws", x.tell(), laws);
            due("laws", x.count(0), laws);
        }
        dueFault("law a;law b;law c;law d;", 18);
        dueFault("law a;law b;law c;  law", 20);
        dueFault("law a;law b;law c;law 2;", 18);
        dueFault("law a;say 1 a;law b;say 1 a;law c;say 1 a;law d;", 42);
        dueFault("law a;law b;law 2;law d;", 16);
        dueTell("law a;law b;law c;" + "say 1 d;", NO_FAULT, 4);
        // Laws of another text don't count.
        SayingsMerged x = Check.told("law a;law b;law c;");
        Check.typeAll(x, "law d;law b;law c;");
        due("three laws anew", x.tell(), 3);
        Check.typeAll(x, "law d;law b;law c;law a;");
        due("four laws", x.tell(), -28);
        x.clear();
        Check.typeAll(x, "law a;law d;law 1;");
        due("three laws after a fault", x.tell(), 3);
        due("the three laws", x.worlds(0, 0), A & D);
    }

    /** "(a SAYER ..; 7 at most; numbered from 0)", "an eighth say". */
    private static void sevenSayers() {
        String all = "";
        for (int sayers = 0; sayers <= 7; sayers++) {
            SayingsMerged x = Check.told(all);
            due("sayers", x.count(1), sayers);
            for (int i = 0; i < sayers; i++) due("sayer " + i + " of " + sayers, x.worlds(1, i), i < 6 ? LETTERS[i] : -1);
            due("no further one of " + sayers, x.worlds(1, sayers), 0);
            if (sayers < 7) all += "say 1 " + (sayers < 6 ? String.valueOf((char) ('a' + sayers)) : "1") + ";";
        }
        dueFault(all + "say 1 a;", 56);
        dueFault(all + " say", 57);
        dueFault(all + "say 0 2", 56);
        dueFault(all + "law a;say 1 a;", 62);
        dueFault("say 1 2;" + all, 6);
        SayingsMerged y = Check.told(all);
        Check.typeAll(y, all);
        due("seven anew", y.tell(), 7);
        Check.typeAll(y, all + "say 9 a;");
        due("eight", y.tell(), -66);
        y.clear();
        Check.typeAll(y, all);
        due("seven after a fault", y.tell(), 7);
    }

    /** "say W SAYING (a SAYER of WEIGHT W, 1 .. 9; ..)". */
    private static void weights() {
        for (int weight = 1; weight <= 9; weight++) {
            SayingsMerged x = Check.told("say " + weight + " a;");
            due("the weight", x.count(3), weight);
            due("its burden", x.burden(0, 0), weight);
        }
        dueFault("say 0 a;", 4);
        dueFault("say 00 a;", 4);
        dueFault("say 09 a;", 4);
        dueFault("say a;", 4);
        dueFault("say !1 a;", 4);
        dueFault("say (1) a;", 4);
        dueFault("say : a;", 4);
        dueFault("say / a;", 4);
        due("the greatest weights", Check.told("say 9 a;".repeat(7)).count(3), 63);
    }

    /** "figures (each one a TOKEN by itself)", "a figure other than 0 and 1 in a SAYING". */
    private static void figures() {
        SayingsMerged x = Check.told("say 10;say 91;say 1 0 ;");
        due("weights of one figure", x.count(3), 11);
        due("one says 0", x.worlds(1, 0), 0);
        due("one says 1", x.worlds(1, 1), -1);
        dueFault("say 10 a;", 7);
        dueFault("say 1 10;", 7);
        dueFault("say 12;", 5);
        dueFault("say 123 a;", 5);
        dueFault("law 00;", 5);
        dueFault("law 01;", 5);
        for (int figure = 2; figure <= 9; figure++) {
            dueSayingFault(String.valueOf(figure), 0);
            dueSayingFault("a&" + figure, 2);
            dueSayingFault("1" + figure, 1);
            dueSayingFault("!(0|" + figure, 4);
        }
        dueSaying("0", 0);
        dueSaying("1", -1);
        dueSaying("!0", -1);
        dueSaying("!1", 0);
    }

    /** "words of letters a .. z (law, say, a .. f)", "a word that is none of these, that TOKEN's". */
    private static void words() {
        String[] none = {"l", "la", "w", "s", "sa", "y", "laws", "says", "lawsay", "lw", "lay", "saw", "lax", "sax",
            "kaw", "maw", "ray", "tay", "lbw", "sby", "xlaw", "ab", "aa", "zz", "g", "z"};
        for (String word : none) {
            dueFault(word + " 1 a;", 0);
            dueFault("law a;" + word, 6);
            dueSayingFault(word, 0);
            dueSayingFault("a & " + word + "|2", 4);
        }
        dueSayingFault("law", 0);
        dueSayingFault("say", 0);
        dueFault("a;", 0);
        dueFault("Law a;", 0);
        dueFault("lAw a;", 0);
        dueFault("laW a;", 0);
        dueFault("law0;law_", 8);
    }

    /** "the first TOKEN that can't stand there": what comes later doesn't matter, nor what kind of fault it is. */
    private static void firstFault() {
        dueFault("law a b;#", 6);
        dueFault("law #;law a b;", 4);
        dueFault("law a;law 2;xyz", 10);
        dueFault("law zz 2 #", 4);
        dueFault("law (a b", 7);
        dueFault("law (", 5);
        dueFault("law !", 5);
        dueFault("law ()", 5);
        dueFault("law (a))", 7);
        dueFault("law a||b;", 6);
        dueFault("law |a;", 4);
        dueFault("law &a;", 4);
        dueFault("law a!b;", 5);
        dueFault("law a(b);", 5);
        dueFault("law (a)(b);", 7);
        dueFault("law !|a;", 5);
        dueFault("law !);", 5);
        dueFault("law (|a);", 5);
        dueFault("law (a|);", 7);
    }

    /** "the text's length, if it ends too early": within each ITEM, after every TOKEN and with blanks behind it. */
    private static void textsThatEndTooEarly() {
        String[] early = {"law", "law a", "law a|", "law a&", "law !", "law (", "law (a", "law (a|b", "law (a)",
            "say", "say 1", "say 1 a", "say 1 !(a", "law a;law", "law a;say 3", "law a;say 3 b"};
        for (String text : early) {
            dueFault(text, text.length());
            dueFault(text + " ", text.length() + 1);
            dueFault(" " + text + "   ", text.length() + 4);
        }
        String[] questions = {"", "!", "(", "a|", "a&", "(a", "(a|b", "!(a", "!(!(a)"};
        for (String text : questions) {
            dueQuestion(text, text.length());
            dueQuestion(text + "  ", text.length() + 2);
        }
    }

    /** A fault leaves the text as it is: the rest can be typed, and then it is told. */
    private static void textsThatEndTooEarlyGoOn() {
        String text = "law(a|b);say 4 c;";
        int[] faults = {0, 0, 3, 4, 5, 6, 7, 8};
        SayingsMerged x = new SayingsMerged();
        for (int k = 0; k < 8; k++) {
            due("one byte more", x.type(text.charAt(k), 1), k + 1);
            due("tell of the first " + (k + 1), x.tell(), -10 - faults[k]);
            due("question of the first " + (k + 1), x.question(), -10);
        }
        Check.typeAll(x, text.substring(8));
        due("tell of all", x.tell(), 2);
        due("the law", x.worlds(0, 0), A | B);
        due("the sayer", x.worlds(1, 0), C);
    }

    // ---- faults change nothing

    /** "-10 less FAULT: nothing changes." of tell(). */
    private static void faultsChangeNothing() {
        String full = "law c;law d;law e;" + "say 3 !b;".repeat(7);
        String[] texts = {"#", "law", "law c", "law c;#", "law c;law d;law e;law f;", full + "say 1 a;", full + "law 1;",
            full + "x", "say 9 1;say 9 1;say 0 1;", "law 0;2", "law !!!!!!!!!a;", "say 1 (((((((((a", "a", "1|(0)",
            "law 0;say 9 d;say 9 e;say 9 f;say", blanksUpTo(300, "law c"), blanksUpTo(300, "say 2 c"), "!d&", "(e"};
        for (String text : texts) {
            SayingsMerged x = rich(text);
            due("a fault in '" + text + "'", x.tell() <= -10 ? 1 : 0, 1);
            due("the text stays '" + text + "'", x.count(2), text.length());
            CHECK.dueRow("after the fault of '" + text + "'", Look.at(x), Look.at(rich(text)));
        }
    }

    /** "-10 less FAULT: nothing changes." of question(). */
    private static void questionFaultsChangeNothing() {
        String[] texts = {"", " ", "#", "a;", "a b", "2", "(a", "a)", "a|", "!", "!!!!!!!!!a", "((((((((!a", "law a;",
            "say 1 a;", "law a", "law a;law ", "ab", blanksUpTo(300, "a|"), blanksUpTo(300, "law c;")};
        for (String text : texts) {
            SayingsMerged x = rich(text);
            due("a fault in the question '" + text + "'", x.question() <= -10 ? 1 : 0, 1);
            due("the text stays '" + text + "'", x.count(2), text.length());
            CHECK.dueRow("after the fault of the question '" + text + "'", Look.at(x), Look.at(rich(text)));
        }
    }

    // ---- the calls

    /** "THERE: WORLDS in which all laws are so." */
    private static void there() {
        due("no laws", Check.told("say 1 a;").worlds(0, 0), -1);
        due("one law", Check.told("law a;").worlds(0, 0), A);
        due("three laws", Check.told("law a;law !b;law c|d;").worlds(0, 0), A & ~B & (C | D));
        due("a law that is always so", Check.told("law 1;").count(4), 64);
        due("a law that is never so", Check.told("law 1;law 0;law 1;").worlds(0, 0), 0);
        due("laws against one another", Check.told("law a;law !a;").count(4), 0);
        due("one world", Check.told("law a&b;law c&d;law e&f;").worlds(0, 0), Long.MIN_VALUE);
    }

    /** "THE TEXT tells laws and SAYERS anew, and is empty then: how many ITEMS." */
    private static void toldAnew() {
        SayingsMerged x = rich("law 0;");
        due("one item", x.tell(), 1);
        due("the text is empty", x.count(2), 0);
        due("no sayers are left", x.count(1), 0);
        due("no world is left", x.count(4), 0);
        due("tell of nothing", x.tell(), 0);
        due("no laws are left", x.count(0), 0);
        due("all worlds are back", x.count(4), 64);
        // What was found for others who said something must not stay.
        SayingsMerged y = Check.told("say 9 a&b;say 9 a;say 9 b;");
        Check.typeAll(y, "say 9 0;say 1 1;");
        due("tell anew", y.tell(), 2);
        for (int world = 0; world < 64; world++) due("no burden is left", y.value(0, world), 0);
        due("all are merged", y.merged(0), -1);
        Check.typeAll(y, "say 2 a;");
        due("told once more", y.tell(), 1);
        due("a burden anew", y.value(0, 0), 2);
    }

    /** What a text doesn't tell stays: COSTS, MEASURE, the QUESTION, THE TRACE. */
    private static void whatIsNotToldStays() {
        SayingsMerged x = rich("say 1 e;");
        x.measure(1);
        due("told anew", x.tell(), 1);
        due("the trace stays", x.trace(), 1011);
        due("the question stays", x.worlds(2, 0), B | D);
        due("the measure stays", x.measure(0), 1);
        due("a cost stays", x.cost(1, 1), 4);
        due("a cost of 0 stays", x.cost(2, 1), 0);
        due("the others stay", x.cost(0, 1), 1);
    }

    /** "The lowest n (1 .. 8) bytes of v, the highest of them first, .. how many it has. BAD; FULL." */
    private static void type() {
        for (int n = 1; n <= 8; n++) {
            String low = "!!!!!!!a".substring(8 - n);
            long above = n == 8 ? 0 : -1L << (8 * n);
            SayingsMerged x = new SayingsMerged();
            due("type of " + n, x.type(above | Check.packed(low), n), n);
            due("question of " + n, x.question(), 1);
            due("what " + n + " bytes tell", x.worlds(2, 0), n % 2 == 1 ? A : ~A);
        }
        SayingsMerged y = new SayingsMerged();
        due("the highest comes first", y.type(0x617C62L, 3), 3);
        due("and the next behind", y.type(0x2663L, 2), 5);
        due("question", y.question(), 1);
        due("a|b&c", y.worlds(2, 0), A | B & C);
        due("bytes above 127", y.type(Long.MIN_VALUE, 8), 8);
        due("a byte above 127 begins none", y.question(), -10);
        int[] wrong = {0, -1, 9, 10, 257, Integer.MIN_VALUE, Integer.MAX_VALUE};
        for (int n : wrong) {
            SayingsMerged x = rich("law c|");
            due("type of " + n, x.type(Check.packed("&&&&&&&&"), n), BAD);
            CHECK.dueRow("after type of " + n, Look.at(x), Look.at(rich("law c|")));
        }
    }

    /** "THE TEXT is empty: how many bytes it had." */
    private static void clear() {
        SayingsMerged x = new SayingsMerged();
        due("clear of a new one", x.clear(), 0);
        Check.typeAll(x, "z".repeat(300));
        due("clear of a full one", x.clear(), 300);
        due("clear again", x.clear(), 0);
        due("one byte after a full text", x.type('l', 1), 1);
        due("the old bytes are gone", x.question(), -10);
        due("clear of one byte", x.clear(), 1);
        Check.typeAll(x, "a|" + " ".repeat(297) + "b");
        due("300 bytes again", x.count(2), 300);
        due("300 bytes are read again", x.question(), 1);
        Check.typeAll(x, "a");
        due("old bytes don't lengthen a word", x.question(), 1);
        due("a alone", x.worlds(2, 0), A);
        SayingsMerged y = rich("law");
        y.clear();
        CHECK.dueRow("clear changes nothing else", Look.at(y), Look.at(rich("")));
    }

    /** "THE TEXT becomes the QUESTION, and is empty then: 1." */
    private static void question() {
        SayingsMerged x = rich("  !(a|b) ");
        due("question", x.question(), 1);
        due("the text is empty", x.count(2), 0);
        due("the question", x.worlds(2, 0), ~(A | B));
        due("question of nothing", x.question(), -10);
        due("it stays", x.worlds(2, 0), ~(A | B));
        Check.ask(x, "0");
        due("never so", x.worlds(2, 0), 0);
        Check.ask(x, "1");
        due("always so", x.worlds(2, 0), -1);
        due("sayers stay", x.count(1), 4);
        due("laws stay", x.count(0), 2);
    }

    /** "THERE (what = 0), what SAYER i says (1), the QUESTION (2). BAD: 0." */
    private static void worlds() {
        SayingsMerged x = rich("");
        due("THERE", x.worlds(0, 0), (A | B) & ~LETTERS[5]);
        due("the first sayer", x.worlds(1, 0), A);
        due("the last sayer", x.worlds(1, 3), 0);
        due("the last but one", x.worlds(1, 2), ~A);
        due("the question", x.worlds(2, 0), B | D);
        int[] nobody = {-1, 4, 5, 6, 7, 8, Integer.MIN_VALUE, Integer.MAX_VALUE};
        for (int i : nobody) due("no sayer " + i, x.worlds(1, i), 0);
        int[] nothing = {-1, 3, Integer.MIN_VALUE, Integer.MAX_VALUE};
        for (int what : nothing) due("no such thing " + what, x.worlds(what, 0), 0);
        due("nobody in a new object", new SayingsMerged().worlds(1, 0), 0);
    }
}
