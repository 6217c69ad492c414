/** Edges of promises 24 to 28: inTurns, herd, says, cliff, bestOrder. */
final class TurnsEdges {
    private static final int MIN = Integer.MIN_VALUE;
    private static final int MAX = Integer.MAX_VALUE;
    private static final String EVEN = "truth a 10;truth b 10;";
    /** x knows, and would have it decided wrongly. */
    private static final String LIAR = Examples.KNOWER + "loss x a b 0;loss x a a 9;loss x b a 0;loss x b b 9;";
    /** All seven know. */
    private static final String SEVEN = Examples.alike("truth a 4;truth b 6;truth c 10;", 7, "3 20 0 0 0 20 0 0 0 20");
    /** p sees nothing, q knows, r sees nothing. */
    private static final String BETWEEN = EVEN + "voter p sees 2 10 10 10 10;voter q sees 2 20 0 0 20;"
        + "voter r sees 2 10 10 10 10;";
    private static final String BLIND = "truth a 3;truth b 17;voter x sees 2 10 10 10 10;voter y sees 2 10 10 10 10;";
    /** With SIGN 2 of x no CASE. */
    private static final String NO_CASE = "truth a 1;truth b 19;voter x sees 3 10 10 0 10 10 0;voter y sees 2 10 10 10 10;";

    /** With SIGN 2 one PART, under a. */
    private static final String ONE_PART = "truth a 1;truth b 19;voter x sees 3 19 0 1 20 0 0;";

    private TurnsEdges() {
    }

    static void all(Edges e) {
        inTurns(e);
        noOrder(e);
        speaking(e);
        herd(e);
        noHerd(e);
        says(e);
        saysNone(e);
        cliff(e);
        cliffNone(e);
        bestOrder(e);
    }

    private static long inTurns(LongTable x, int... order) {
        Check.tape(x, order);
        return x.inTurns();
    }

    private static LongTable spoken(String text, int... order) {
        LongTable x = Check.with(text);
        inTurns(x, order);
        return x;
    }

    private static int says(LongTable x, int... signs) {
        Check.tape(x, signs);
        return x.says();
    }

    private static int cliff(LongTable x, int... signs) {
        Check.tape(x, signs);
        return x.cliff();
    }

    private static void inTurns(Edges e) {
        e.says(24, "IN TURNS, the tape's bytes being the order of all VOTERS: what is LOST");
        e.edge("of one VOTER", () -> e.due("inTurns()", inTurns(Check.with(Examples.ONE), 0), 100));
        e.edge("of three VOTERS", () -> e.due("inTurns()", inTurns(Check.with(Examples.THREE), 0, 1, 2), 32500));
        e.edge("of seven VOTERS, the last one first", () -> e.due("inTurns()", inTurns(
            Check.with(SEVEN), 6, 5, 4, 3, 2, 1, 0), 0));
        e.edge("the first byte is the first to speak", () -> {
            e.due("inTurns() of x, y", inTurns(Check.with(LIAR), 0, 1), 0);
            e.due("inTurns() of y, x", inTurns(Check.with(LIAR), 1, 0), 8000);
        });
        e.edge("by COMMON LOSSES", () -> e.due("inTurns()", inTurns(Check.with(
            Examples.ONE + "loss x a b 9;loss x b a 1;loss a b 50;loss b a 2;"), 0), 600));
        e.edge("50 each time, of seven VOTERS", () -> e.due("inTurns()", inTurns(Check.with(
            SEVEN + "loss a a 50;loss b b 50;loss c c 50;loss a b 50;loss a c 50;loss b a 50;loss b c 50;loss c a 50;"
            + "loss c b 50;"), 0, 1, 2, 3, 4, 5, 6), 1280000000000L));
        e.edge("ways, WEIGHTS and the RULE have no part in it", () -> e.due("inTurns()", inTurns(Check.with(
            Examples.KNOWER + "way x set none none;weight x 0;rule need 1 a else a;"), 0, 1), 0));
    }

    private static void noOrder(Edges e) {
        e.says(24, "NONE: not as told.");
        int[][] orders = {{}, {0}, {0, 1}, {0, 1, 1}, {0, 1, 0}, {2, 1, 2}, {0, 0, 0}, {0, 1, 3}, {3, 1, 2}, {0, 1, 2, 0}, {0, 1, 255}, {32, 1, 2},
            {0, 1, 128}, {0, 1, 2, 3, 4, 5, 6}};
        for (int[] order : orders) {
            e.edge(java.util.Arrays.toString(order) + " of three VOTERS", () -> e.due("inTurns()", inTurns(
                Check.with(Examples.THREE), order), -1));
        }
        e.edge("one of seven twice", () -> {
            e.due("inTurns()", inTurns(Check.with(SEVEN), 0, 1, 2, 3, 4, 5, 5), -1);
            e.due("inTurns()", inTurns(Check.with(SEVEN), 0, 1, 2, 3, 4, 5, 0), -1);
        });
        e.edge("a full tape", () -> e.due("inTurns()", inTurns(Check.with(Examples.ONE), new int[740]), -1));
        e.edge("without a MATTER", () -> {
            e.due("inTurns() of none", inTurns(new LongTable()), -1);
            e.due("inTurns() of 0", inTurns(new LongTable(), 0), -1);
        });
    }

    private static void speaking(Edges e) {
        e.says(24, "IN TURNS, in an order of all VOTERS: each says a TRUTH that, decided, loses least by the own LOSSES, given the"
            + " own SIGN and what was said ahead, all knowing how the others speak (of like ones the least; where no CASE is left,"
            + " 0).");
        e.edge("of two like ones the least", () -> e.due("says()", says(spoken(
            EVEN + "voter x sees 2 10 10 10 10;", 0), 1), 0));
        e.edge("of like ones b and c, a being worse, b", () -> e.due("says()", says(spoken(
            "truth a 4;truth b 8;truth c 8;voter x sees 2 10 10 10 10 10 10;", 0), 0), 1));
        e.edge("of like ones, by what was said ahead, the least", () -> {
            // A 'no' and then the own 'yes' are alike.
            e.due("says()", says(spoken(Examples.THREE, 0, 1, 2), 1, 0, 1), 101);
            e.due("says() with yes first", says(spoken(Examples.THREE, 0, 1, 2), 0, 1, 1), 0);
        });
        e.edge("by own LOSSES", () -> e.due("says()", says(spoken(Examples.ONE + "loss x a b 9;loss a b 0;", 0), 1), 0));
        e.edge("one who is known to say it wrong is heard right", () -> e.due("says()", says(spoken(LIAR, 0, 1), 0, 2), 10));
        e.edge("no CASE with the own SIGN: 0", () -> e.due("says()", says(spoken(NO_CASE, 1, 0), 2, 0), 10));
        e.edge("no CASE behind it either: 0", () -> e.due("says()", says(spoken(NO_CASE, 0, 1), 2, 1), 0));
        e.edge("no CASE with what was said and the own SIGN: 0", () -> e.due("says()", says(spoken(
            SEVEN, 0, 1, 2, 3, 4, 5, 6), 2, 1, 2, 2, 2, 2, 2), 2000000));
        e.says(24, "DECIDED is what the last one says.");
        e.edge("not what most say", () -> e.due("inTurns()", inTurns(Check.with(BETWEEN), 0, 2, 1), 0));
        e.edge("the last in the order, not by number", () -> e.due("inTurns()", inTurns(Check.with(LIAR), 1, 0), 8000));
    }

    private static void herds(Edges e, LongTable x, long herd, long astray, long right) {
        e.due("herd(0)", x.herd(0), herd);
        e.due("herd(1)", x.herd(1), astray);
        e.due("herd(2)", x.herd(2), right);
    }

    private static void herd(Edges e) {
        e.says(25, "By the latest inTurns() that was not NONE: HERD (what 0), ASTRAY (1), RIGHT (2)");
        e.edge("each of the three", () -> herds(e, spoken(Examples.THREE, 0, 1, 2), 80000, 20000, 127500));
        e.edge("stay behind one that is NONE", () -> {
            LongTable x = spoken(Examples.THREE, 0, 1, 2);
            e.due("inTurns()", inTurns(x, 0, 1), -1);
            herds(e, x, 80000, 20000, 127500);
        });
        e.edge("stay behind another MATTER and a FAULT", () -> {
            LongTable x = spoken(Examples.THREE, 0, 1, 2);
            Check.tell(x, Examples.ONE);
            Check.matter(x, "?");
            herds(e, x, 80000, 20000, 127500);
        });
        e.edge("stay behind bestOrder(), says() and cliff()", () -> {
            LongTable x = spoken(Examples.THREE, 0, 1, 2);
            x.bestOrder();
            says(x, 1, 0, 1);
            cliff(x, 0, 0, 0);
            herds(e, x, 80000, 20000, 127500);
        });
        e.edge("the latest of two", () -> {
            LongTable x = spoken(Examples.THREE, 0, 1, 2);
            Check.tell(x, BLIND);
            inTurns(x, 1, 0);
            herds(e, x, 8000, 1200, 6800);
        });
        e.says(25, "HERD: PARTS of CASES with a CLIFF ahead of the last turn; ASTRAY: those of them in which the wrong one is"
            + " DECIDED.");
        e.edge("a CLIFF at the only turn is at the last one", () -> herds(e, spoken(
            EVEN + "voter x sees 2 10 10 10 10;", 0), 0, 0, 200));
        e.edge("RIGHT of one PART more", () -> herds(e, spoken(ONE_PART, 0), 0, 0, 380 + 1));
        e.edge("a CLIFF at the last turn", () -> herds(e, spoken(Examples.KNOWER, 0, 1), 0, 0, 8000));
        e.edge("a CLIFF at the turn ahead of the last", () -> herds(e, spoken(
            BETWEEN, 1, 0, 2), 160000, 0, 160000));
        e.edge("a CLIFF at the first turn", () -> herds(e, spoken(BLIND, 0, 1), 8000, 1200, 6800));
        e.edge("one who FOLLOWS ahead of one who does not is no CLIFF", () -> herds(e, spoken(
            BETWEEN, 0, 1, 2), 0, 0, 160000));
        e.edge("of seven VOTERS", () -> herds(e, spoken(SEVEN, 0, 1, 2, 3, 4, 5, 6), 25600000000L, 0, 25600000000L));
    }

    private static void noHerd(Edges e) {
        e.says(25, "NONE for another what, or ahead of any.");
        for (int what : new int[] {-1, 3, 9, MIN, MAX}) {
            e.edge("herd(" + what + ")", () -> e.due("herd", spoken(Examples.THREE, 0, 1, 2).herd(what), -1));
        }
        e.edge("ahead of any", () -> {
            herds(e, new LongTable(), -1, -1, -1);
            herds(e, Check.with(Examples.THREE), -1, -1, -1);
        });
        e.edge("ahead of any, behind four MATTERS and a FAULT", () -> {
            LongTable x = Check.with(Examples.THREE);
            for (String text : new String[] {BLIND, Examples.ONE, BETWEEN, "?"}) {
                Check.matter(x, text);
                herds(e, x, -1, -1, -1);
                e.due("says()", says(x, 0, 0, 0), -1);
                e.due("cliff()", cliff(x, 0, 0, 0), -1);
            }
        });
        e.edge("ahead of any that was not NONE", () -> herds(e, spoken(Examples.THREE, 0, 1), -1, -1, -1));
        e.edge("ahead of any, behind bestOrder()", () -> {
            LongTable x = Check.with(Examples.THREE);
            x.bestOrder();
            herds(e, x, -1, -1, -1);
        });
    }

    private static void says(Edges e) {
        e.says(26, "What the VOTERS say IN TURNS in that order, of the MATTER of that inTurns() (whatever is told behind it), with"
            + " the tape's bytes as SIGNS (of each VOTER, by number): the TRUTHS, by ten each, the first one highest");
        e.edge("TRUTH 0 first", () -> e.due("says()", says(spoken(Examples.KNOWER, 1, 0), 1, 2), 1));
        e.edge("TRUTH 0 alone", () -> e.due("says()", says(spoken(SEVEN, 0, 1, 2, 3, 4, 5, 6), 0, 0, 0, 0, 0, 0, 0), 0));
        e.edge("the greatest, of seven VOTERS", () -> e.due("says()", says(spoken(
            SEVEN, 6, 5, 4, 3, 2, 1, 0), 2, 2, 2, 2, 2, 2, 2), 2222222));
        e.edge("of one VOTER", () -> e.due("says()", says(spoken(Examples.PLAIN_SIGHT, 0), 2), 2));
        e.edge("SIGNS by number, TRUTHS by turn", () -> e.due("says()", says(spoken(
            Examples.KNOWER, 1, 0), 0, 0), 10));
        e.edge("another MATTER told behind it", () -> {
            LongTable x = spoken(Examples.KNOWER, 1, 0);
            Check.tell(x, Examples.THREE);
            Check.tell(x, Examples.ONE);
            e.due("says()", says(x, 1, 2), 1);
        });
        e.edge("another MATTER with as many SIGNS told behind it", () -> {
            LongTable x = spoken(Examples.KNOWER, 1, 0);
            Check.tell(x, LIAR);
            e.due("says()", says(x, 1, 2), 1);
            e.due("inTurns()", inTurns(x, 1, 0), 8000);
            e.due("says() of the later one", says(x, 1, 2), 0);
        });
        e.edge("FAULTS told behind it", () -> {
            LongTable x = spoken(Examples.KNOWER, 1, 0);
            for (int i = 0; i < 4; i++) {
                Check.matter(x, SEVEN + "?");
                e.due("says()", says(x, 1, 2), 1);
            }
        });
        e.edge("a later inTurns() that is NONE", () -> {
            LongTable x = spoken(Examples.KNOWER, 1, 0);
            inTurns(x, 0, 0);
            e.due("says()", says(x, 1, 2), 1);
        });
        e.edge("a bestOrder() behind it", () -> {
            LongTable x = spoken(Examples.KNOWER, 1, 0);
            x.bestOrder();
            e.due("says()", says(x, 1, 2), 1);
        });
    }

    private static void saysNone(Edges e) {
        e.says(26, "NONE: not as told, or ahead of any.");
        int[][] rows = {{}, {0}, {0, 0, 0}, {2, 0}, {0, 3}, {9, 0}, {255, 0}, {0, 128}};
        for (int[] row : rows) {
            e.edge(java.util.Arrays.toString(row) + " of VOTERS with 2 and 3", () -> e.due("says()", says(
                spoken(Examples.KNOWER, 1, 0), row), -1));
        }
        e.edge("a full tape", () -> e.due("says()", says(spoken(Examples.ONE, 0), new int[740]), -1));
        e.edge("SIGNS of the MATTER told behind it", () -> {
            LongTable x = spoken(Examples.KNOWER, 1, 0);
            Check.tell(x, Examples.THREE);
            e.due("says()", says(x, 0, 0, 0), -1);
        });
        e.edge("ahead of any", () -> {
            e.due("says() without a MATTER", says(new LongTable()), -1);
            e.due("says() of a SIGN without a MATTER", says(new LongTable(), 0), -1);
            e.due("says()", says(Check.with(Examples.ONE), 0), -1);
        });
        e.edge("ahead of any that was not NONE", () -> e.due("says()", says(spoken(Examples.ONE, 1), 0), -1));
        e.edge("ahead of any, behind bestOrder()", () -> {
            LongTable x = Check.with(Examples.ONE);
            x.bestOrder();
            e.due("says()", says(x, 0), -1);
        });
    }

    private static void cliff(Edges e) {
        e.says(27, "CLIFF in that order, of that MATTER likewise, with the tape's bytes as SIGNS");
        e.edge("another MATTER and a FAULT told behind it", () -> {
            LongTable x = spoken(Examples.THREE, 0, 1, 2);
            Check.tell(x, BETWEEN);
            Check.matter(x, "?");
            e.due("cliff()", cliff(x, 1, 1, 0), 2);
        });
        e.edge("a later inTurns() that is NONE", () -> {
            LongTable x = spoken(Examples.THREE, 0, 1, 2);
            inTurns(x, 0, 0, 0);
            e.due("cliff()", cliff(x, 1, 1, 0), 2);
        });
        e.edge("by turn, not by number", () -> e.due("cliff()", cliff(spoken(BETWEEN, 1, 2, 0), 0, 0, 0), 1));
        e.says(27, "FOLLOWS: one says the same with each SIGN that has a CASE left.");
        e.edge("a SIGN that is never seen has no part in it", () -> e.due("cliff()", cliff(spoken(NO_CASE, 0, 1), 0, 0), 0));
        e.edge("a SIGN that has no CASE by what was said has no part in it", () -> e.due("cliff()", cliff(spoken(
            "truth b 10;truth a 10;voter x sees 2 20 0 0 20;voter y sees 2 20 0 0 20;", 0, 1), 1, 0), 1));
        e.edge("with all SIGNS, not the one on the tape", () -> e.due("cliff()", cliff(spoken(
            Examples.THREE, 0, 1, 2), 1, 1, 1), 2));
        e.edge("where no CASE is left", () -> e.due("cliff()", cliff(spoken(NO_CASE, 0, 1), 2, 1), 0));
        e.says(27, "CLIFF: the first turn (0 the first one) from which on all FOLLOW.");
        e.edge("0", () -> e.due("cliff()", cliff(spoken(BLIND, 0, 1), 1, 1), 0));
        e.edge("0 of one VOTER", () -> e.due("cliff()", cliff(spoken(EVEN + "voter x sees 2 10 10 10 10;", 0), 1), 0));
        e.edge("1", () -> e.due("cliff()", cliff(spoken(Examples.THREE, 0, 1, 2), 0, 1, 1), 1));
        e.edge("the last turn", () -> e.due("cliff()", cliff(spoken(Examples.THREE, 0, 1, 2), 1, 1, 0), 2));
        e.edge("behind one who FOLLOWS and one who does not", () -> e.due("cliff()", cliff(spoken(
            BETWEEN, 0, 1, 2), 0, 1, 0), 2));
        e.edge("of seven VOTERS", () -> e.due("cliff()", cliff(spoken(
            SEVEN, 6, 5, 4, 3, 2, 1, 0), 0, 0, 0, 0, 0, 0, 0), 1));
    }

    private static void cliffNone(Edges e) {
        e.says(27, "NONE: the last one does not FOLLOW, not as told, or ahead of any.");
        e.edge("the last one does not FOLLOW", () -> e.due("cliff()", cliff(spoken(
            Examples.THREE, 0, 1, 2), 1, 0, 1), -1));
        e.edge("the last one alone does not FOLLOW", () -> e.due("cliff()", cliff(spoken(BETWEEN, 0, 2, 1), 0, 0, 0), -1));
        // With SIGN 0 and 1 b, with SIGN 2, which b never has, a.
        e.edge("one who says otherwise with a SIGN that one TRUTH alone has", () -> {
            e.due("cliff()", cliff(spoken("truth a 9;truth b 11;voter x sees 3 0 10 10 10 10 0;", 0), 0), -1);
            e.due("cliff() of the other TRUTH", cliff(spoken(
                "truth a 11;truth b 9;voter x sees 3 10 10 0 0 10 10;", 0), 0), -1);
        });
        e.edge("one who says otherwise with a SIGN of one PART", () -> e.due("cliff()", cliff(spoken(ONE_PART, 0), 0), -1));
        e.edge("one alone who does not", () -> e.due("cliff()", cliff(spoken(Examples.PLAIN_SIGHT, 0), 0), -1));
        int[][] rows = {{}, {0}, {0, 0, 0}, {2, 0}, {0, 3}, {9, 0}, {255, 0}, {0, 128}};
        for (int[] row : rows) {
            e.edge(java.util.Arrays.toString(row) + " of VOTERS with 2 and 3", () -> e.due("cliff()", cliff(
                spoken(Examples.KNOWER, 0, 1), row), -1));
        }
        e.edge("a full tape", () -> e.due("cliff()", cliff(spoken(BLIND, 0, 1), new int[740]), -1));
        e.edge("ahead of any", () -> {
            e.due("cliff() without a MATTER", cliff(new LongTable()), -1);
            e.due("cliff()", cliff(Check.with(BLIND), 0, 0), -1);
        });
        e.edge("ahead of any that was not NONE", () -> e.due("cliff()", cliff(spoken(BLIND, 1, 1), 0, 0), -1));
    }

    private static void bestOrder(Edges e) {
        e.says(28, "BEST ORDER: its VOTERS, by ten each, the first one highest");
        e.edge("of one", () -> e.due("bestOrder()", Check.with(Examples.ONE).bestOrder(), 0));
        e.edge("the second one first", () -> e.due("bestOrder()", Check.with(
            EVEN + "voter y sees 2 15 5 5 15;voter x sees 2 20 0 0 20;"
            + "loss x a b 0;loss x a a 9;loss x b a 0;loss x b b 9;").bestOrder(), 10));
        e.says(28, "BEST ORDER (of 5 VOTERS at most): the least LOST; of like ones the first (the lesser VOTERS, turn by turn).");
        e.edge("of five like ones", () -> e.due("bestOrder()", Check.with(
            Examples.alike(EVEN, 5, "2 10 10 10 10")).bestOrder(), 1234));
        e.edge("of three of whom any order loses the same", () -> e.due("bestOrder()", Check.with(
            Examples.THREE).bestOrder(), 12));
        // All know, and all but one would have it decided wrongly: that one is to be the last.
        e.edge("of five whose fifth one is to be the last", () -> e.due("bestOrder()", Check.with(
            Examples.alike(EVEN, 5, "2 20 0 0 20") + liars("pqrs")).bestOrder(), 1234));
        e.edge("of five whose first one is to be the last", () -> e.due("bestOrder()", Check.with(
            Examples.alike(EVEN, 5, "2 20 0 0 20") + liars("qrst")).bestOrder(), 12340));
        e.edge("of five whose third one is to be the last", () -> e.due("bestOrder()", Check.with(
            Examples.alike(EVEN, 5, "2 20 0 0 20") + liars("pqst")).bestOrder(), 1342));
        bestOfAll(e);
        e.says(28, "NONE: no MATTER, or more than 5 VOTERS.");
        e.edge("no MATTER", () -> e.due("bestOrder()", new LongTable().bestOrder(), -1));
        e.edge("5 VOTERS", () -> e.due("bestOrder()", Check.with(
            Examples.alike(EVEN, 5, "2 15 5 5 15")).bestOrder() >= 0, true));
        e.edge("6 VOTERS", () -> e.due("bestOrder()", Check.with(
            Examples.alike(EVEN, 6, "2 15 5 5 15")).bestOrder(), -1));
        e.edge("7 VOTERS", () -> e.due("bestOrder()", Check.with(SEVEN).bestOrder(), -1));
    }

    /** Orders that alone lose least; the Oracle, which tries all CASE by CASE, tells the same ones. */
    private static void bestOfAll(Edges e) {
        String[][] found = {
            {"43210", "truth a 6;truth b 14;voter p sees 2 5 15 6 14;voter q sees 2 6 14 11 9;voter r sees 2 18 2 1 19;"
                + "voter s sees 2 5 15 17 3;voter t sees 2 13 7 17 3;"},
            {"40321", "truth a 8;truth b 12;voter p sees 2 3 17 18 2;voter q sees 2 13 7 15 5;voter r sees 2 16 4 12 8;"
                + "voter s sees 2 11 9 8 12;voter t sees 2 18 2 11 9;"},
            {"31042", "truth a 5;truth b 15;voter p sees 2 12 8 3 17;voter q sees 2 2 18 18 2;voter r sees 2 4 16 15 5;"
                + "voter s sees 2 13 7 1 19;voter t sees 2 19 1 4 16;"},
            {"20413", "truth a 11;truth b 9;voter p sees 2 1 19 17 3;voter q sees 2 12 8 4 16;voter r sees 2 15 5 5 15;"
                + "voter s sees 2 11 9 3 17;voter t sees 2 0 20 17 3;"},
        };
        for (String[] f : found) {
            e.edge("of five, " + f[0], () -> {
                LongTable x = Check.with(f[1]);
                e.due("bestOrder()", x.bestOrder(), Integer.parseInt(f[0]));
                e.due("bestOrder() by the Oracle", new Oracle(f[1]).bestOrder(), Integer.parseInt(f[0]));
                e.due("bestOrder() again", x.bestOrder(), Integer.parseInt(f[0]));
            });
        }
        e.edge("the same again", () -> {
            LongTable x = Check.with(Examples.THREE);
            e.due("bestOrder()", x.bestOrder(), 12);
            e.due("bestOrder()", x.bestOrder(), 12);
        });
    }

    /** Each of these would have it decided wrongly. */
    private static String liars(String names) {
        StringBuilder text = new StringBuilder();
        for (char name : names.toCharArray()) {
            text.append("loss ").append(name).append(" a b 0;loss ").append(name).append(" a a 9;loss ");
            text.append(name).append(" b a 0;loss ").append(name).append(" b b 9;");
        }
        return text.toString();
    }
}
