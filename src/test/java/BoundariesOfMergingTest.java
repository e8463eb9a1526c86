/** Parts 2 to 4 of the document: the empty, the full, what is equal, and where there is none. */
public final class BoundariesOfMergingTest {
    private static final Check CHECK = new Check();
    private static final int BAD = SayingsMerged.BAD, NONE = SayingsMerged.NONE;
    private static final long A = 0xAAAAAAAAAAAAAAAAL, B = 0xCCCCCCCCCCCCCCCCL, C = 0xF0F0F0F0F0F0F0F0L;
    /** WORLDS THERE are 0 and 1. */
    private static final String ONLY_A = "law !b&!c&!d&!e&!f;";
    /** WORLDS THERE are 0 .. 3. */
    private static final String ONLY_A_B = "law !c&!d&!e&!f;";
    private static final String ALL = "a&b&c&d&e&f", NO = "!a&!b&!c&!d&!e&!f";

    public static void main(String[] args) {
        farOfTwoWorlds();
        farFromWhatIsSoInNone();
        farFromWorldsNotThere();
        withoutSayers();
        withoutWorlds();
        equalBurdens();
        oneMoreIsWorse();
        rowsThatDifferInOnePlace();
        greatestBurdens();
        heldInAllMerged();
        changedWith();
        changedAlong();
        changedLetGo();
        changedWhereThereIsNone();
        quarrelsOfTheEmptySet();
        quarrelsOfSeven();
        setsInOrder();
        thirtyFiveSets();
        free();
        sharesAtTheEnds();
        sharesInLeastTerms();
        lossWithoutAny();
        lossIsTheGreatest();
        noBestLie();
        bestLieOfAllLetters();
        bestLieIsTheFirst();
        noLetterIsInBothSets();
        bestLieIsTheLeast();
        liesChangeNothing();
        worthAtTheEnds();
        traceOfBodies();
        CHECK.end("BoundariesOfMergingTest");
    }

    private static void due(String call, long got, long want) {
        CHECK.due(call, got, want);
    }

    private static void costs(SayingsMerged x, int... costs) {
        for (int letter = 0; letter < costs.length; letter++) x.cost(letter, costs[letter]);
    }

    private static void dueMerged(String of, SayingsMerged x, long bySum, long byWorst, long byRow) {
        due("merged(0) " + of, x.merged(0), bySum);
        due("merged(1) " + of, x.merged(1), byWorst);
        due("merged(2) " + of, x.merged(2), byRow);
    }

    // ---- part 2

    /** "by MEASURE 0 COSTS (0 .. 9 each ..) .. added; by MEASURE 1 0, if they are the same, else 1". */
    private static void farOfTwoWorlds() {
        SayingsMerged x = new SayingsMerged();
        costs(x, 9, 9, 9, 9, 9, 9);
        due("the farthest", x.apart(0, 63), 54);
        due("the farthest back", x.apart(63, 0), 54);
        costs(x, 0, 0, 0, 0, 0, 0);
        due("the farthest by nothing", x.apart(0, 63), 0);
        for (int world = 0; world < 64; world++) due("the same", x.apart(world, world), 0);
        x.measure(1);
        due("measure 1 doesn't look at costs", x.apart(0, 63), 1);
        due("measure 1 doesn't look at the cost of one", x.apart(0, 1), 1);
        for (int world = 0; world < 64; world++) due("the same by measure 1", x.apart(world, world), 0);
    }

    /** "FAR of a WORLD from a SAYING: ..; 0, if it is so in none." */
    private static void farFromWhatIsSoInNone() {
        SayingsMerged x = Check.told("say 9 0;say 9 a&!a;say 1 b;");
        costs(x, 9, 9, 9, 9, 9, 9);
        for (int measure = 0; measure < 2; measure++) {
            x.measure(measure);
            for (int world = 0; world < 64; world++) {
                due("burden of world " + world, x.burden(0, world), 0);
                due("burden of world " + world, x.burden(1, world), 0);
            }
            dueMerged("beside what is so in none", x, B, B, B);
            due("its loss", x.lie(0, 0, 2), 0);
        }
    }

    /** "the least from any WORLD (THERE or not) in which it is so". */
    private static void farFromWorldsNotThere() {
        SayingsMerged x = Check.told("law !a;say 1 a&!b&!c&!d&!e&!f;say 1 a|f;");
        due("from a world not THERE", x.burden(0, 0), 1);
        due("of a world not THERE", x.burden(0, 1), 0);
        due("of the last world", x.burden(0, 63), 5);
        due("the nearest is not THERE", x.burden(1, 0), 1);
        due("in it", x.burden(1, 32), 0);
        SayingsMerged none = Check.told("law 0;say 4 a;");
        due("without a world THERE", none.burden(0, 0), 4);
        due("its value", none.value(0, 62), 4);
    }

    /** "(Without SAYERS all that are THERE.)" */
    private static void withoutSayers() {
        SayingsMerged x = Check.told("law a|b;");
        for (int measure = 0; measure < 2; measure++) {
            x.measure(measure);
            dueMerged("of nobody", x, A | B, A | B, A | B);
            due("the sum of nobody", x.value(0, 63), 0);
            due("the worst of nobody", x.value(1, 0), 0);
        }
        Check.ask(x, "a|b");
        for (int way = 0; way < 3; way++) due("held by nobody", x.held(way), 1);
        Check.ask(x, "a");
        for (int way = 0; way < 3; way++) due("not held by nobody", x.held(way), 0);
        SayingsMerged fresh = new SayingsMerged();
        dueMerged("of a new object", fresh, -1, -1, -1);
        SayingsMerged none = Check.told("law 0;");
        dueMerged("of nobody nowhere", none, 0, 0, 0);
        due("held by nobody nowhere", none.held(0), 1);
    }

    private static void withoutWorlds() {
        SayingsMerged x = Check.told("law a;law !a;say 3 a;say 4 !b;");
        Check.ask(x, "0");
        dueMerged("of no world", x, 0, 0, 0);
        for (int way = 0; way < 3; way++) due("held in all of none", x.held(way), 1);
        SayingsMerged one = Check.told("law " + ALL + ";say 9 " + NO + ";");
        dueMerged("of one world", one, Long.MIN_VALUE, Long.MIN_VALUE, Long.MIN_VALUE);
    }

    /** Equal BURDENS: all WORLDS that have the best are MERGED. */
    private static void equalBurdens() {
        SayingsMerged x = Check.told("say 5 a;say 5 !a;");
        dueMerged("of two that are equal", x, -1, -1, -1);
        x.measure(1);
        dueMerged("of two that are equal by measure 1", x, -1, -1, -1);
        SayingsMerged costless = Check.told("say 9 a;");
        dueMerged("of one", costless, A, A, A);
        costless.cost(0, 0);
        dueMerged("of one, a costs nothing", costless, -1, -1, -1);
        // BURDENS 1 1 1 0, in another order each.
        SayingsMerged y = Check.told(ONLY_A_B + "say 1 a&b|!a&!b&c;say 1 a&!b|!a&b&c;say 1 !a&b|a&!b&c;say 1 !a&!b|a&b&c;");
        dueMerged("of four that are equal", y, 15, 15, 15);
        // 6 against 3 and 3.
        SayingsMerged z = Check.told(ONLY_A + "say 6 a;say 3 !a;say 3 !a;");
        dueMerged("of equal sums", z, 3, 2, 2);
    }

    /** Beside what is equal: one more in weight or cost is worse. */
    private static void oneMoreIsWorse() {
        dueMerged("of 5 and 4", Check.told("say 5 a;say 4 !a;"), A, A, A);
        dueMerged("of 4 and 5", Check.told("say 4 a;say 5 !a;"), ~A, ~A, ~A);
        dueMerged("of 9 and 8", Check.told("say 9 a;say 8 !a;"), A, A, A);
        SayingsMerged x = Check.told(ONLY_A_B + "say 1 !a&!b;say 1 a&b;");
        dueMerged("of costs 1 1", x, 15, 6, 6);
        x.cost(0, 2);
        dueMerged("of costs 2 1", x, 15, 6, 6);
        x.cost(1, 2);
        x.cost(0, 0);
        dueMerged("of costs 0 2", x, 15, 15, 15);
    }

    /** "whose BURDENS, the greatest first, are the least as a row (first by the first one, then by the next, ..)". */
    private static void rowsThatDifferInOnePlace() {
        for (int place = 1; place <= 7; place++) {
            StringBuilder text = new StringBuilder(ONLY_A);
            int own = 0;
            int later = 0;
            for (int i = 1; i <= 7; i++) {
                int weight = 10 - i;
                // Ahead of the place both WORLDS have the same; from it on the one who says a has more than each later one.
                text.append("say ").append(weight).append(i < place ? " b;" : i == place ? " a;" : " !a;");
                own += i == place ? weight : 0;
                later += i > place ? weight : 0;
            }
            long bySum = own < later ? 1 : 2;
            dueMerged("by place " + place, Check.told(text.toString()), bySum, place == 1 ? 2 : 3, 2);
        }
    }

    private static void greatestBurdens() {
        SayingsMerged x = Check.told(("say 9 " + ALL + ";").repeat(7));
        costs(x, 9, 9, 9, 9, 9, 9);
        due("the greatest burden", x.burden(6, 0), 486);
        due("the greatest sum", x.value(0, 0), 3402);
        due("the greatest worst", x.value(1, 0), 486);
        dueMerged("of the greatest", x, Long.MIN_VALUE, Long.MIN_VALUE, Long.MIN_VALUE);
        // In both WORLDS six times 405, and then 1 or 0.
        SayingsMerged y = Check.told(ONLY_A + "say 9 b&c&d&e&f;".repeat(6) + "say 1 a;");
        costs(y, 1, 9, 9, 9, 9, 9);
        due("a great sum", y.value(0, 0), 2431);
        dueMerged("by the least behind great ones", y, 2, 3, 2);
        SayingsMerged z = Check.told("law " + NO + ";" + ("say 9 " + ALL + ";").repeat(7));
        costs(z, 9, 9, 9, 9, 9, 9);
        dueMerged("where all are the greatest", z, 1, 1, 1);
    }

    /** "HELD: the QUESTION is so in all MERGED." */
    private static void heldInAllMerged() {
        SayingsMerged x = Check.told(ONLY_A_B + "say 1 a;");
        Check.ask(x, "a");
        due("so in all", x.held(0), 1);
        Check.ask(x, "a&!b&!c");
        due("not so in one of two", x.held(0), 0);
        Check.ask(x, "a&b&!c");
        due("not so in the other of two", x.held(1), 0);
        Check.ask(x, "!a");
        due("so in none", x.held(2), 0);
        Check.ask(x, "1");
        due("always so", x.held(0), 1);
        SayingsMerged last = Check.told("say 1 " + ALL + "|" + NO + ";");
        Check.ask(last, "a");
        due("not so in the first world", last.held(0), 0);
        Check.ask(last, "!f");
        due("not so in the last world", last.held(0), 0);
    }

    // ---- part 3

    private static void dueChanged(String of, SayingsMerged x, long with, long along, long letGo) {
        due("with, " + of, x.changed(0, 0), with);
        due("along, " + of, x.changed(0, 1), along);
        due("let go, " + of, x.changed(0, 2), letGo);
    }

    /** "HOW 0 (with): WORLDS THERE with the QUESTION that are the least FAR from his SAYING." */
    private static void changedWith() {
        SayingsMerged x = Check.told(ONLY_A_B + "say 1 a&b;");
        Check.ask(x, "a");
        due("with what he says", x.changed(0, 0), Check.set(3));
        Check.ask(x, "!b");
        due("with one step", x.changed(0, 0), Check.set(1));
        Check.ask(x, "!(a&b)");
        due("with two that are as near", x.changed(0, 0), Check.set(1, 2));
        Check.ask(x, "!a&!b");
        due("with the farthest", x.changed(0, 0), Check.set(0));
        x.measure(1);
        Check.ask(x, "!(a&b)");
        due("with all, by measure 1", x.changed(0, 0), Check.set(0, 1, 2));
        x.measure(0);
        x.cost(0, 0);
        Check.ask(x, "1");
        due("with what costs nothing", x.changed(0, 0), Check.set(2, 3));
    }

    /** "HOW 1 (along): for each WORLD with his SAYING those THERE with the QUESTION that are the least FAR from it". */
    private static void changedAlong() {
        SayingsMerged x = Check.told(ONLY_A_B + "say 1 (a&b|!a&!b)&!c&!d&!e&!f;");
        Check.ask(x, "b");
        due("from each of two", x.changed(0, 1), Check.set(2, 3));
        due("with the nearest alone", x.changed(0, 0), Check.set(3));
        Check.ask(x, "a&!b|!a&b");
        due("from each two that are as near", x.changed(0, 1), Check.set(1, 2));
        Check.ask(x, "1");
        due("each stays", x.changed(0, 1), Check.set(0, 3));
        SayingsMerged y = Check.told(ONLY_A_B + "say 1 f;");
        due("from worlds that are not THERE", y.changed(0, 1), Check.set(0, 1, 2, 3));
        SayingsMerged z = Check.told(ONLY_A_B + "say 1 " + ALL + ";");
        due("from the last world alone", z.changed(0, 1), Check.set(3));
        z.measure(1);
        due("from the last world, by measure 1", z.changed(0, 1), Check.set(0, 1, 2, 3));
    }

    /** "HOW 2 (let go): WORLDS THERE with his SAYING, and those .. of WORLDS THERE in which the QUESTION is not so." */
    private static void changedLetGo() {
        SayingsMerged x = Check.told(ONLY_A_B + "say 1 a&b;");
        Check.ask(x, "a&b");
        due("let go of what he says", x.changed(0, 2), Check.set(1, 2, 3));
        Check.ask(x, "a");
        due("let go of a", x.changed(0, 2), Check.set(2, 3));
        Check.ask(x, "a|b");
        due("let go of what is not so in one", x.changed(0, 2), Check.set(0, 3));
        Check.ask(x, "!a");
        due("what he doesn't hold", x.changed(0, 2), Check.set(3));
        Check.ask(x, "0");
        due("what is never so", x.changed(0, 2), Check.set(3));
        Check.ask(x, "1");
        due("what is always so", x.changed(0, 2), Check.set(3));
        x.cost(1, 0);
        Check.ask(x, "0");
        due("what is never so, b costs nothing", x.changed(0, 2), Check.set(1, 3));
    }

    /** "(None, where there is no such WORLD; HOW 1 of a SAYING that is so in none: none.)" */
    private static void changedWhereThereIsNone() {
        SayingsMerged x = Check.told(ONLY_A_B + "say 1 a;");
        Check.ask(x, "0");
        dueChanged("the question is never so", x, 0, 0, Check.set(1, 3));
        Check.ask(x, "f");
        dueChanged("the question is not so THERE", x, 0, 0, Check.set(1, 3));
        Check.ask(x, "!f");
        dueChanged("the question is so in all THERE", x, Check.set(1, 3), Check.set(1, 3), Check.set(1, 3));
        SayingsMerged none = Check.told("law 0;say 1 a;");
        dueChanged("no world is THERE", none, 0, 0, 0);
        Check.ask(none, "0");
        dueChanged("no world is THERE, and never so", none, 0, 0, 0);
        SayingsMerged never = Check.told(ONLY_A_B + "say 1 0;");
        dueChanged("he says what is so in none", never, Check.set(0, 1, 2, 3), 0, 0);
        Check.ask(never, "a");
        dueChanged("he says what is so in none, of a", never, Check.set(1, 3), 0, Check.set(0, 2));
        SayingsMerged notThere = Check.told(ONLY_A_B + "say 1 c;");
        dueChanged("he says what is not so THERE", notThere, 15, 15, 0);
    }

    // ---- part 4: sets

    /** "QUARRELS, if in no WORLD THERE all that they say is so": of nobody, if no WORLD is THERE. */
    private static void quarrelsOfTheEmptySet() {
        due("nobody", new SayingsMerged().quarrels(0), 0);
        due("nobody of one who quarrels", Check.told("say 1 0;").quarrels(0), 0);
        due("one who quarrels", Check.told("say 1 0;").quarrels(1), 1);
        due("one who quarrels with a law", Check.told("law a;say 1 !a;").quarrels(1), 1);
        due("one with a law of one world", Check.told("law " + ALL + ";say 1 a;").quarrels(1), 0);
        SayingsMerged none = Check.told("law 0;say 1 1;say 1 1;");
        for (int set = 0; set < 4; set++) due("set " + set + " where no world is THERE", none.quarrels(set), 1);
        due("no set 4", none.quarrels(4), BAD);
    }

    private static void quarrelsOfSeven() {
        SayingsMerged x = Check.told("say 1 a;say 1 b;say 1 c;say 1 d;say 1 e;say 1 f;say 1 !(" + ALL + ");");
        for (int set = 0; set < 128; set++) due("quarrels(" + set + ")", x.quarrels(set), set == 127 ? 1 : 0);
        due("an eighth", x.quarrels(128), BAD);
        due("the least quarrel is of all", x.sets(0, 0), 127);
        due("one least quarrel", x.sets(0, -1), 1);
        due("the first of seven that agree", x.sets(1, 0), 63);
        due("the last of seven that agree", x.sets(1, 6), 126);
        due("no more agree", x.sets(1, 7), BAD);
        SayingsMerged same = Check.told("say 1 a;".repeat(7));
        due("all seven agree", same.sets(1, 0), 127);
        due("they are one set", same.sets(1, -1), 1);
        due("no quarrel", same.sets(0, -1), 0);
        SayingsMerged never = Check.told("say 1 0;".repeat(7));
        due("each quarrels alone", never.sets(0, -1), 7);
        due("the last alone", never.sets(0, 6), 64);
        due("nobody agrees: the empty set", never.sets(1, 0), 0);
        due("nobody agrees: one set", never.sets(1, -1), 1);
    }

    private static void dueSets(String of, SayingsMerged x, int what, int... wants) {
        due("how many " + of, x.sets(what, -1), wants.length);
        for (int k = 0; k < wants.length; k++) due("sets(" + what + ", " + k + ") " + of, x.sets(what, k), wants[k]);
        due("one more " + of, x.sets(what, wants.length), BAD);
    }

    /** "in order by how many they are (LEAST: fewer first; GREATEST: more first), then as numbers (bits)". */
    private static void setsInOrder() {
        dueSets("without sayers", new SayingsMerged(), 0);
        dueSets("without sayers", new SayingsMerged(), 1, 0);
        SayingsMerged none = Check.told("law 0;say 1 a;say 1 0;");
        dueSets("without worlds", none, 0, 0);
        dueSets("without worlds", none, 1);
        // The least quarrels: {6}, {0, 5}, {1, 2, 3}.
        SayingsMerged x = Check.told("say 1 a;say 1 b;say 1 c;say 1 !b|!c;say 1 d;say 1 !a;say 1 0;");
        dueSets("fewer first", x, 0, 64, 33, 14);
        // Without 6, without one of 0 and 5, without one of 1, 2, 3.
        dueSets("as numbers", x, 1, 23, 27, 29, 54, 58, 60);
        // 0 against all others, who agree.
        SayingsMerged y = Check.told("say 1 !a;say 1 a;say 1 a;say 1 a;");
        dueSets("against all", y, 0, 3, 5, 9);
        dueSets("more first", y, 1, 14, 1);
    }

    /** As many sets as seven can have: all of four quarrel, all of three agree. */
    private static void thirtyFiveSets() {
        String threeAtMost = "!(a|b|c)|!(a&b|c&(a|b))&!(d&e&f)|!(a&b&c)&!(d&e|f&(d|e))|!(d|e|f)";
        String twoAtMost = "!(a|b|c)&!(d&e&f)|!(a&b|c&(a|b))&!(d&e|f&(d|e))|!(a&b&c)&!(d|e|f)";
        String six = "say 1 a;say 1 b;say 1 c;say 1 d;say 1 e;say 1 f;";
        SayingsMerged x = Check.told("law " + threeAtMost + ";" + six + "say 1 " + twoAtMost + ";");
        due("worlds with three letters at most", x.count(4), 1 + 6 + 15 + 20);
        due("how many quarrel", x.sets(0, -1), 35);
        due("how many agree", x.sets(1, -1), 35);
        int fours = 0;
        int threes = 0;
        for (int set = 0; set < 128; set++) {
            if (Integer.bitCount(set) == 4) due("the next four", x.sets(0, fours++), set);
            if (Integer.bitCount(set) == 3) due("the next three", x.sets(1, threes++), set);
        }
        due("the last four", x.sets(0, 34), 120);
        due("the last three", x.sets(1, 34), 112);
        due("no four more", x.sets(0, 35), BAD);
        due("no three more", x.sets(1, 35), BAD);
        due("none is free", x.free(), 0);
        for (int i = 0; i < 7; i++) dueShare("of 35", x, i, 1, 7);
    }

    /** "FREE: SAYERS in no LEAST QUARREL." */
    private static void free() {
        due("of nobody", new SayingsMerged().free(), 0);
        due("of one", Check.told("say 1 a;").free(), 1);
        due("of one who quarrels alone", Check.told("say 1 0;").free(), 0);
        due("of seven", Check.told("say 1 a;".repeat(7)).free(), 127);
        due("of seven who quarrel alone", Check.told("say 1 0;".repeat(7)).free(), 0);
        due("of seven without a world", Check.told("law 0;" + "say 1 0;".repeat(7)).free(), 127);
        due("of the last one", Check.told("say 1 0;".repeat(6) + "say 1 1;").free(), 64);
        due("of the first one", Check.told("say 1 1;" + "say 1 0;".repeat(6)).free(), 1);
        // He quarrels with one who quarrels alone, in no least one.
        due("beside one who quarrels alone", Check.told("say 1 0;say 1 a;").free(), 2);
        SayingsMerged fewer = Check.told("say 1 0;".repeat(7));
        Check.typeAll(fewer, "say 1 a;say 1 b;");
        fewer.tell();
        due("of fewer than were told before", fewer.free(), 3);
    }

    // ---- part 4: shares

    private static void dueShare(String of, SayingsMerged x, int i, int upper, int lower) {
        due("upper number of " + i + " " + of, x.share(i, 0), upper);
        due("lower number of " + i + " " + of, x.share(i, 1), lower);
    }

    /** "as a fraction in least terms; 0 by 1", "none ahead of all quarrels, if any WORLD is THERE". */
    private static void sharesAtTheEnds() {
        dueShare("of one who agrees", Check.told("say 1 a;"), 0, 0, 1);
        dueShare("of one who quarrels", Check.told("say 1 0;"), 0, 1, 1);
        dueShare("of one where no world is", Check.told("law 0;say 1 0;"), 0, 0, 1);
        SayingsMerged none = Check.told("law 0;" + "say 1 0;".repeat(7));
        SayingsMerged agree = Check.told("say 1 a;".repeat(7));
        SayingsMerged never = Check.told("say 1 0;".repeat(7));
        for (int i = 0; i < 7; i++) {
            dueShare("of seven where no world is", none, i, 0, 1);
            dueShare("of seven who agree", agree, i, 0, 1);
            dueShare("of seven who quarrel alone", never, i, 1, 7);
        }
        SayingsMerged one = Check.told("say 1 1;say 1 1;say 1 1;say 1 1;say 1 1;say 1 1;say 1 0;");
        dueShare("of the one of seven", one, 6, 1, 1);
        dueShare("of another of seven", one, 0, 0, 1);
    }

    private static void sharesInLeastTerms() {
        // 0 turns all orders in which he isn't the first; another one those in which just 0 is ahead of him.
        SayingsMerged x = Check.told("say 1 !a;" + "say 1 a;".repeat(6));
        dueShare("against six", x, 0, 6, 7);
        for (int i = 1; i < 7; i++) dueShare("of the six", x, i, 1, 42);
        for (int others = 1; others <= 5; others++) {
            SayingsMerged y = Check.told("say 1 !a;" + "say 1 a;".repeat(others));
            dueShare("against " + others, y, 0, others, others + 1);
            dueShare("of the " + others, y, others, 1, others * (others + 1));
        }
        dueShare("of a pair beside a free one", Check.told("say 1 b;say 1 !a;say 1 a;"), 2, 1, 2);
    }

    // ---- part 4: lies

    private static void dueLie(String of, SayingsMerged x, int[] who, int term, int loss, int trueLoss) {
        due("lie " + of, x.lie(who[0], who[1], 0), term);
        due("its loss " + of, x.lie(who[0], who[1], 1), loss);
        due("the true loss " + of, x.lie(who[0], who[1], 2), trueLoss);
    }

    private static int[] who(int sayer, int way) {
        return new int[] {sayer, way};
    }

    /** "LOSS of what is MERGED: the greatest FAR of any WORLD MERGED from his true SAYING (0 without any)." */
    private static void lossWithoutAny() {
        SayingsMerged x = Check.told("law 0;say 9 a;say 1 !a;");
        for (int way = 0; way < 3; way++) {
            dueLie("where no world is", x, who(0, way), NONE, NONE, 0);
            dueLie("where no world is", x, who(1, way), NONE, NONE, 0);
        }
    }

    private static void lossIsTheGreatest() {
        SayingsMerged x = Check.told("law " + ALL + "|" + NO + ";say 1 " + ALL + ";say 1 " + NO + ";");
        for (int i = 0; i < 2; i++) {
            due("of 0 and 6, by sums", x.lie(i, 0, 2), 6);
            due("of 0 and 6, by the worst", x.lie(i, 1, 2), 6);
        }
        costs(x, 9, 9, 9, 9, 9, 9);
        due("the greatest loss", x.lie(0, 2, 2), 54);
        x.measure(1);
        due("by measure 1", x.lie(0, 2, 2), 1);
        SayingsMerged heavy = Check.told("law !a;say 9 a;");
        due("a loss is FAR without the weight", heavy.lie(0, 0, 2), 1);
    }

    /** "told only if its LOSS is less than that of his true SAYING; else NONE." */
    private static void noBestLie() {
        for (int way = 0; way < 3; way++) {
            dueLie("of one alone", Check.told("say 1 a;"), who(0, way), NONE, NONE, 0);
            dueLie("of one whom a law is against", Check.told("law !a;say 1 a;"), who(0, way), NONE, NONE, 1);
            dueLie("of one who says what is so in none", Check.told("say 1 0;say 2 a;"), who(0, way), NONE, NONE, 0);
            dueLie("of one who says what is always so", Check.told("say 1 1;say 2 a;"), who(0, way), NONE, NONE, 0);
        }
        dueLie("that gains nothing by sums", Check.told(ONLY_A + "say 1 a;say 1 !a;"), who(0, 0), NONE, NONE, 1);
        dueLie("that gains by the worst", Check.told(ONLY_A + "say 1 a;say 1 !a;"), who(0, 1), 64 * 3, 0, 1);
    }

    /** TERMS of all LETTERS: six that are so, six that are not; one weight more, and none is heavy enough. */
    private static void bestLieOfAllLetters() {
        SayingsMerged so = Check.told(ONLY_A + "say 1 a;say 5 !a;");
        dueLie("of six that are so", so, who(0, 1), 64 * 63, 0, 1);
        dueLie("of six that are so, by rows", so, who(0, 2), 64 * 63, 0, 1);
        dueLie("of six against too much", Check.told(ONLY_A + "say 1 a;say 6 !a;"), who(0, 1), NONE, NONE, 1);
        String others = "law b&c&d&e&f;";
        SayingsMerged not = Check.told(others + "say 1 !a;say 5 a;");
        dueLie("of six that are not", not, who(0, 1), 63, 0, 1);
        dueLie("of six that are not, by rows", not, who(0, 2), 63, 0, 1);
        dueLie("of six against too much", Check.told(others + "say 1 !a;say 6 a;"), who(0, 1), NONE, NONE, 1);
        SayingsMerged mixed = Check.told("law !b&!c&d&e&f;say 1 a;say 5 !a;");
        dueLie("of three and three", mixed, who(0, 1), 64 * 7 + 56, 0, 1);
        SayingsMerged seventh = Check.told(ONLY_A + "say 1 1;".repeat(5) + "say 5 !a;say 1 a;");
        dueLie("of the seventh", seventh, who(6, 1), 64 * 63, 0, 1);
    }

    /** "of several the first by 64 times the set of those that are so and the set of those that are not". */
    private static void bestLieIsTheFirst() {
        // He needs two steps more than a alone; not-d and not-e count as much as b and c, but stand first.
        SayingsMerged x = Check.told("law !b&!c&d&e&!f;say 1 a;say 2 !a;");
        dueLie("with others that are not", x, who(0, 1), 64 + 24, 0, 1);
        SayingsMerged y = Check.told("law !b&!c&d&!e&!f;say 1 a;say 2 !a;");
        dueLie("with one that is not, and one that is", y, who(0, 1), 64 * 3 + 8, 0, 1);
        SayingsMerged z = Check.told(ONLY_A + "say 1 a;say 2 !a;");
        dueLie("with the first that are so", z, who(0, 1), 64 * 7, 0, 1);
        z.cost(1, 2);
        dueLie("with the first by cost", z, who(0, 1), 64 * 3, 0, 1);
        z.cost(1, 0);
        dueLie("with the first that cost something", z, who(0, 1), 64 * 13, 0, 1);
    }

    /** "some LETTERS being so (a set), others not (another set)": no LETTER is in both. */
    private static void noLetterIsInBothSets() {
        // Only one who is wrong by two LETTERS in every WORLD could draw the other to a.
        SayingsMerged x = Check.told("say 1 a;say 2 !a;");
        dueLie("of no letter in both, by the worst", x, who(0, 1), NONE, NONE, 1);
        dueLie("of no letter in both, by rows", x, who(0, 2), NONE, NONE, 1);
        dueLie("of letters that no world has", Check.told("law !b;law !c;say 1 a;say 2 !a;"), who(0, 1), 64 * 7, 0, 1);
    }

    private static void bestLieIsTheLeast() {
        SayingsMerged part = Check.told("law !d&!e&!f;say 2 !c&!b;say 2 b&c;say 3 a&c|!c;");
        dueLie("that gains a part", part, who(0, 0), 5, 1, 2);
        // The others put 7 ahead of all by 2, as much as he weighs: whatever he says, it stays MERGED.
        part.measure(1);
        dueLie("by measure 1", part, who(0, 0), NONE, NONE, 1);
    }

    private static void liesChangeNothing() {
        String text = ONLY_A + "say 1 a;say 5 !a;say 2 b;";
        SayingsMerged x = Check.told(text);
        for (int i = 0; i < 3; i++) {
            for (int way = 0; way < 3; way++) x.lie(i, way, 0);
        }
        CHECK.dueRow("after lies", Look.at(x), Look.at(Check.told(text)));
    }

    // ---- part 4: kinds

    private static void dueWorths(String of, SayingsMerged x, int i, int... wants) {
        for (int kind = 0; kind < 4; kind++) due("worth(" + kind + ", " + i + ") " + of, x.worth(kind, i), wants[kind]);
    }

    private static void worthAtTheEnds() {
        dueWorths("where no world is", Check.told("law 0;say 9 1;"), 0, 0, 0, 0, 0);
        dueWorths("of what is so in none", Check.told("say 9 0;"), 0, 0, 0, 0, 64);
        dueWorths("of what is always so", Check.told("say 9 1;"), 0, 64, 576, 64, 640);
        dueWorths("of one whom a law is against", Check.told("law !a;say 9 a;"), 0, 0, 0, 0, 32);
        SayingsMerged same = Check.told("say 2 a;".repeat(7));
        for (int i = 0; i < 7; i++) dueWorths("of the same", same, i, 32, 64, 0, 96);
        SayingsMerged two = Check.told("law c;say 3 a;say 1 b;");
        dueWorths("of two", two, 0, 16, 48, 8, 56);
        dueWorths("of the other", two, 1, 16, 16, 8, 24);
        // One who says what is so in none takes nothing away, wherever he stands.
        dueWorths("beside one who says 0", Check.told("say 1 0;say 1 a;say 1 0;"), 1, 32, 32, 32, 64);
        dueWorths("ahead of b and 0", Check.told("say 1 a;say 1 b;say 1 0;"), 0, 32, 32, 16, 48);
        dueWorths("behind 0 and b", Check.told("say 1 0;say 1 b;say 1 a;"), 2, 32, 32, 16, 48);
        dueWorths("between b and c", Check.told("say 1 b;say 1 a;say 1 c;"), 1, 32, 32, 8, 40);
    }

    /** "numbers in brackets are added to THE TRACE .. as often as worth() asks that body". */
    private static void traceOfBodies() {
        SayingsMerged x = Check.told("say 1 a;say 1 b;");
        long[] adds = {1, 11, 101, 1011};
        long due = 0;
        for (int round = 0; round < 3; round++) {
            for (int kind = 0; kind < 4; kind++) {
                x.worth(kind, round % 2);
                due += adds[kind];
                due("the trace", x.trace(), due);
            }
        }
        x.merged(0);
        x.lie(0, 0, 0);
        x.tell();
        x.clear();
        x.measure(1);
        due("other calls add nothing", x.trace(), due);
        due("the trace of another object", new SayingsMerged().trace(), 0);
    }
}
