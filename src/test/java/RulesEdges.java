/** Edges of promises 29 to 33, 39 and 40: bestRule, bar, barLost, silent, helps, weighed, weighedAt. */
final class RulesEdges {
    private static final int MIN = Integer.MIN_VALUE;
    private static final int MAX = Integer.MAX_VALUE;
    private static final String EVEN = "truth a 10;truth b 10;";
    /** Seven of WEIGHT 9, who all say a. */
    private static final String SEVEN_NINES = Examples.alike("truth a 1;truth b 19;", 7, "2 10 10 10 10")
        + Examples.each(7, "weight", "9") + Examples.each(7, "way", "set a a");
    /** p and q see nothing, x knows. */
    private static final String BLIND = EVEN + "voter p sees 2 10 10 10 10;voter q sees 2 10 10 10 10;"
        + "voter x sees 2 20 0 0 20;";
    /** p is worth more than two of the others, and less than four. */
    private static final String EXPERT = EVEN + "voter p sees 2 15 5 5 15;voter q sees 2 12 8 8 12;voter r sees 2 12 8 8 12;"
        + "voter s sees 2 12 8 8 12;voter t sees 2 12 8 8 12;";
    private static final int[][] NO_PAIR = {{0, 0}, {1, 1}, {0, 2}, {2, 0}, {-1, 0}, {0, -1}, {2, 2}, {-1, -1}, {MIN, 0},
        {0, MIN}, {MAX, 0}, {0, MAX}, {7, 0}, {0, 7}};

    private RulesEdges() {
    }

    static void all(Edges e) {
        bestRule(e);
        bar(e);
        barOfNone(e);
        barLost(e);
        silent(e);
        helps(e);
        helpsOfNone(e);
        weighed(e);
        weighedOfNone(e);
        weighedAt(e);
        weighedAtNone(e);
    }

    private static void bestRule(Edges e) {
        e.says(29, "What is LOST by the BEST RULE.");
        e.edge("no more than by the RULE told", () -> e.due("bestRule()", Check.with(
            Examples.THREE + "rule need 3 yes else no;").bestRule(), 25000));
        e.says(29, "BEST RULE for the votes told: for each row of votes the TRUTH that loses least by COMMON LOSSES: what is LOST"
            + " then.");
        e.edge("votes that say the contrary", () -> e.due("bestRule()", Check.with(
            Examples.KNOWER + "way x set b a;").bestRule(), 0));
        e.edge("votes that say nothing", () -> e.due("bestRule()", Check.with(
            Examples.ONE + "way x set none none;").bestRule(), 100));
        e.edge("none is a vote as well as another", () -> e.due("bestRule()", Check.with(
            Examples.KNOWER + "way x set none a;").bestRule(), 0));
        e.edge("votes of WEIGHT 0, too", () -> e.due("bestRule()", Check.with(
            Examples.KNOWER + "weight x 0;").bestRule(), 0));
        e.edge("by COMMON LOSSES, not own ones", () -> e.due("bestRule()", Check.with(
            Examples.ONE + "way x set none b;loss a b 9;loss x a b 0;").bestRule(), 60 + 240));
        e.edge("like ones lose the same", () -> e.due("bestRule()", Check.with(
            EVEN + "voter x sees 2 10 10 10 10;").bestRule(), 200));
        e.edge("50 each time, of seven VOTERS", () -> e.due("bestRule()", Check.with(
            Examples.alike(EVEN, 7, "2 20 0 0 20") + "loss a a 50;loss b b 50;loss a b 50;loss b a 50;").bestRule(),
            1280000000000L));
        e.says(29, "NoSuchElementException: no MATTER.");
        e.edge("ahead of any", () -> e.dueThrow("bestRule()", () -> new LongTable().bestRule()));
        e.edge("behind a FAULT", () -> {
            LongTable x = new LongTable();
            Check.matter(x, Examples.ONE + "?");
            e.dueThrow("bestRule()", x::bestRule);
        });
    }

    private static void bar(Edges e, String text, int t, int u, int k, long lost) {
        LongTable x = Check.with(text);
        e.due("bar(" + t + ", " + u + ")", x.bar(t, u), k);
        e.due("barLost()", x.barLost(), lost);
    }

    private static void bar(Edges e) {
        e.says(30, "BAR for TRUTHS t and u (not the same)");
        e.edge("either way round", () -> {
            bar(e, Examples.KNOWER + "weight x 2;", 1, 0, 2, 0);
            bar(e, Examples.KNOWER + "weight x 2;", 0, 1, 2, 0);
        });
        e.edge("of three TRUTHS the last and the first", () -> bar(e, Examples.PLAIN_SIGHT, 2, 0, 1, 6 * 20));
        e.says(30, "BAR: for 'need k T else U' (WEIGHTS as told) the k from 1 to 82 that loses least; the least of like ones.");
        e.edge("1, the least", () -> bar(e, SEVEN_NINES, 1, 0, 1, 19 * 1280000000L));
        e.edge("1, where all are like, as nobody votes", () -> bar(e,
            Examples.ONE + "way x set none none;", 0, 1, 1, 100));
        e.edge("1, where all are like, as nobody has a WEIGHT", () -> bar(e, Examples.ONE + "weight x 0;", 1, 0, 1, 300));
        e.edge("64, above all WEIGHTS", () -> bar(e, SEVEN_NINES, 0, 1, 64, 1280000000L));
        e.edge("55, one above six WEIGHTS of 9", () -> bar(e, Examples.alike(EVEN, 7, "2 20 0 0 20")
            + Examples.each(7, "weight", "9") + Examples.each(6, "way", "set a a"), 0, 1, 55, 0));
        e.edge("10, one above a WEIGHT of 9 that misleads", () -> bar(e,
            "truth a 1;truth b 19;voter x sees 2 10 10 10 10;way x set a none;weight x 9;", 0, 1, 10, 20));
        e.edge("WEIGHTS as told, not the RULE", () -> bar(e, Examples.THREE + "weight ann 9;weight bob 9;weight cy 9;"
            + "rule need 81 yes else no;", 0, 1, 10, 25000));
        e.edge("the least of like ones, 10 of 10 to 18", () -> bar(e, Examples.THREE
            + "weight ann 9;weight bob 9;weight cy 9;", 1, 0, 10, 25000));
        e.edge("by COMMON LOSSES", () -> bar(e, Examples.KNOWER + "weight x 2;loss a b 0;loss x a b 50;loss b a 3;", 1, 0, 1, 0));
    }

    private static void barOfNone(Edges e) {
        e.says(30, "NONE: no such ones.");
        for (int[] w : NO_PAIR) {
            e.edge("bar(" + w[0] + ", " + w[1] + ") of two TRUTHS", () -> e.due("bar", Check.with(
                Examples.THREE).bar(w[0], w[1]), -1));
        }
        e.edge("TRUTH 3 of three", () -> {
            e.due("bar(3, 0)", Check.with(Examples.PLAIN_SIGHT).bar(3, 0), -1);
            e.due("bar(0, 3)", Check.with(Examples.PLAIN_SIGHT).bar(0, 3), -1);
        });
        e.edge("without a MATTER", () -> e.due("bar(0, 1)", new LongTable().bar(0, 1), -1));
    }

    private static void barLost(Edges e) {
        e.says(31, "What is LOST by the latest bar() that was not NONE");
        e.edge("nothing", () -> bar(e, Examples.KNOWER + "weight x 2;", 0, 1, 2, 0));
        for (int[] w : NO_PAIR) {
            e.edge("stays behind bar(" + w[0] + ", " + w[1] + "), which is NONE", () -> {
                LongTable x = Check.with(Examples.THREE);
                x.bar(0, 1);
                x.bar(w[0], w[1]);
                e.due("barLost()", x.barLost(), 25000);
            });
        }
        e.edge("stays behind another MATTER and a FAULT", () -> {
            LongTable x = Check.with(Examples.THREE);
            x.bar(0, 1);
            Check.tell(x, Examples.ONE);
            Check.matter(x, "?");
            e.due("barLost()", x.barLost(), 25000);
        });
        e.edge("the latest of two, though more", () -> {
            LongTable x = Check.with(SEVEN_NINES);
            e.due("bar(0, 1)", x.bar(0, 1), 64);
            e.due("bar(1, 0)", x.bar(1, 0), 1);
            e.due("barLost()", x.barLost(), 19 * 1280000000L);
            e.due("bar(0, 1) again", x.bar(0, 1), 64);
            e.due("barLost() again", x.barLost(), 1280000000L);
        });
        e.says(31, "NONE ahead of any.");
        e.edge("ahead of any", () -> {
            e.due("barLost()", new LongTable().barLost(), -1);
            e.due("barLost() of a MATTER", Check.with(Examples.THREE).barLost(), -1);
        });
        e.edge("ahead of any that was not NONE", () -> {
            LongTable x = Check.with(Examples.THREE);
            x.bar(0, 0);
            e.due("barLost()", x.barLost(), -1);
        });
    }

    private static void silent(Edges e) {
        e.says(32, "SILENT");
        e.edge("the second VOTER", () -> e.due("silent()", Check.with(Examples.KNOWER + "weight y 3;").silent(), 1));
        e.says(32, "SILENT: of the VOTERS the one without whose votes (none in place of each) LOST is least, if it is less than"
            + " with; of like ones the least.");
        e.edge("of like ones the least", () -> e.due("silent()", Check.with(BLIND + "weight x 2;").silent(), 0));
        e.edge("the least LOST, not the first that is less", () -> {
            // x knows, but q and one of p and r outweigh it: without p there is r, without q neither can.
            e.due("silent()", Check.with(EVEN + "voter p sees 2 10 10 10 10;voter q sees 2 10 10 10 10;"
                + "voter r sees 2 10 10 10 10;voter x sees 2 20 0 0 20;way p set a none;way q set a none;way r set a none;"
                + "weight q 3;weight x 4;").silent(), 1);
        });
        e.edge("a chair has no vote then", () -> e.due("silent()", Check.with(
            EVEN + "voter p sees 2 20 0 0 20;voter q sees 2 10 10 10 10;way q set b b;rule most chair q;").silent(), 1));
        e.edge("by COMMON LOSSES", () -> e.due("silent()", Check.with(
            Examples.KNOWER + "weight y 3;loss a b 0;loss b a 0;loss x a b 50;").silent(), -1));
        e.edge("the seventh VOTER", () -> e.due("silent()", Check.with(
            Examples.alike(EVEN, 6, "2 20 0 0 20") + "voter v sees 2 10 10 10 10;weight v 9;").silent(), 6));
        e.says(32, "NONE: none is, or no MATTER.");
        e.edge("as good without as with", () -> e.due("silent()", Check.with(BLIND).silent(), -1));
        e.edge("nothing is LOST with all", () -> e.due("silent()", Check.with(Examples.PLAIN_SIGHT).silent(), -1));
        e.edge("each does more good than harm", () -> e.due("silent()", Check.with(Examples.THREE).silent(), -1));
        e.edge("no MATTER", () -> e.due("silent()", new LongTable().silent(), -1));
    }

    private static void helps(Edges e) {
        e.says(33, "1 VOTER v HELPS only beside w, 0 not");
        e.edge("1", () -> e.due("helps(0, 1)", Check.with(Examples.THREE).helps(0, 1), 1));
        e.edge("0", () -> e.due("helps(0, 1)", Check.with(Examples.KNOWER).helps(0, 1), 0));
        e.says(33, "HELPS only beside another: VOTER v HELPS beside w, if LOST is less with v's votes than without, but not less,"
            + " where w's are none both times.");
        e.edge("not less with v's votes than without", () -> e.due("helps(1, 0)", Check.with(
            Examples.KNOWER + "weight y 0;").helps(1, 0), 0));
        e.edge("more with v's votes than without", () -> e.due("helps(1, 0)", Check.with(
            Examples.KNOWER + "weight y 3;").helps(1, 0), 0));
        e.edge("less where w's are none, too", () -> e.due("helps(0, 1)", Check.with(
            Examples.KNOWER + "weight x 3;").helps(0, 1), 0));
        e.edge("just as much where w's are none", () -> e.due("helps(0, 1)", Check.with(
            Examples.KNOWER + "rule need 2 b else a;").helps(0, 1), 1));
        e.edge("just as much where w's are none, though w's alone would lose more", () -> e.due("helps(0, 1)", Check.with(
            "truth a 18;truth b 2;voter v sees 2 10 10 10 10;voter w sees 2 10 10 10 10;way v set a a;way w set b b;")
            .helps(0, 1), 1));
        e.edge("more where w's are none", () -> {
            // v says b each time and w a: together they let z, who knows, decide, alone each outweighs z.
            LongTable x = Check.with(EVEN + "voter v sees 2 10 10 10 10;voter w sees 2 10 10 10 10;voter z sees 2 20 0 0 20;"
                + "way v set b b;way w set a a;weight v 2;weight w 2;");
            e.due("helps(0, 1)", x.helps(0, 1), 1);
            e.due("helps(1, 0)", x.helps(1, 0), 1);
        });
    }

    private static void helpsOfNone(Edges e) {
        e.says(33, "NONE: no such ones, or one.");
        for (int[] w : NO_PAIR) {
            e.edge("helps(" + w[0] + ", " + w[1] + ") of two VOTERS", () -> e.due("helps", Check.with(
                Examples.KNOWER).helps(w[0], w[1]), -1));
        }
        e.edge("of one VOTER", () -> {
            e.due("helps(0, 0)", Check.with(Examples.ONE).helps(0, 0), -1);
            e.due("helps(0, 1)", Check.with(Examples.ONE).helps(0, 1), -1);
        });
        e.edge("without a MATTER", () -> e.due("helps(0, 1)", new LongTable().helps(0, 1), -1));
    }

    private static void weighed(Edges e, String text, long lost, int... at) {
        LongTable x = Check.with(text);
        e.due("weighed()", x.weighed(), lost);
        for (int i = 0; i < at.length; i++) {
            e.due("weighedAt(" + i + ")", x.weighedAt(i), at[i]);
        }
    }

    private static void weighed(Edges e) {
        e.says(39, "What is LOST when WEIGHED");
        e.edge("by COMMON LOSSES", () -> weighed(e, Examples.ONE + "loss a b 9;loss x a b 0;", 300));
        e.edge("nothing", () -> weighed(e, Examples.KNOWER + "weight x 0;weight y 9;rule need 81 b else b;", 0));
        e.says(39, "WEIGHED (5 VOTERS at most): of all WEIGHTS 0 to 3 each, all k from 1 to 15, all two TRUTHS t and u, not the"
            + " same, 'need k t else u' with the votes told: the least LOST; of like ones the first (WEIGHTS, VOTER by VOTER, then"
            + " k, t, u, the lesser).");
        e.edge("WEIGHT 0 and k 1, the least, where votes are of no use", () -> weighed(e,
            Examples.ONE + "loss a b 9;", 300, 0, -1, -1, -1, -1, 1, 1, 0));
        e.edge("WEIGHT 3, the greatest", () -> {
            LongTable x = Check.with(EXPERT);
            weighed(e, EXPERT, x.knows(0), 3, 1, 1, 1, 1, 4, 0, 1);
        });
        e.edge("five like ones of whom three decide", () -> weighed(e, Examples.alike(EVEN, 5, "2 15 5 5 15"),
            Check.with(Examples.alike(EVEN, 5, "2 15 5 5 15")).lost(), 1, 1, 1, 1, 1, 3, 0, 1));
        e.edge("the last of five alone", () -> weighed(e, Examples.alike(EVEN, 4, "2 10 10 10 10")
            + "voter t sees 2 20 0 0 20;", 0, 0, 0, 0, 0, 1, 1, 0, 1));
        e.edge("t 0 ahead of t 1, where all is like", () -> weighed(e, EVEN + "voter x sees 2 10 10 10 10;way x set none none;",
            200, 0, -1, -1, -1, -1, 1, 0, 1));
        e.edge("u 1 ahead of u 2, where both are like", () -> weighed(e,
            "truth a 2;truth b 9;truth c 9;voter x sees 2 10 10 10 10 10 10;way x set none none;", 11 * 20,
            0, -1, -1, -1, -1, 1, 0, 1));
        e.edge("the third TRUTH", () -> weighed(e, Examples.PLAIN_SIGHT, 4 * 20, 1, -1, -1, -1, -1, 1, 1, 2));
    }

    private static void weighedOfNone(Edges e) {
        e.says(39, "NONE: no MATTER, or more than 5 VOTERS.");
        e.edge("no MATTER", () -> e.due("weighed()", new LongTable().weighed(), -1));
        e.edge("1 VOTER", () -> e.due("weighed()", Check.with(Examples.ONE).weighed(), 100));
        e.edge("5 VOTERS", () -> e.due("weighed()", Check.with(
            Examples.alike(EVEN, 5, "2 20 0 0 20")).weighed(), 0));
        e.edge("6 VOTERS", () -> e.due("weighed()", Check.with(
            Examples.alike(EVEN, 6, "2 20 0 0 20")).weighed(), -1));
        e.edge("7 VOTERS", () -> e.due("weighed()", Check.with(
            Examples.alike(EVEN, 7, "2 20 0 0 20")).weighed(), -1));
    }

    private static void weighedAt(Edges e) {
        e.says(40, "By the latest weighed() that was not NONE: the WEIGHT of VOTER i (0 to 4), 5 k, 6 t, 7 u");
        e.edge("the same again", () -> {
            LongTable x = Check.with(EXPERT);
            long lost = x.knows(0);
            for (int i = 0; i < 3; i++) {
                e.due("weighed()", x.weighed(), lost);
                e.due("weighedAt(0)", x.weighedAt(0), 3);
                e.due("weighedAt(5)", x.weighedAt(5), 4);
            }
        });
        e.edge("each of the eight", () -> weighed(e, EXPERT, Check.with(EXPERT).knows(0), 3, 1, 1, 1, 1, 4, 0, 1));
        e.edge("stay behind one that is NONE", () -> {
            LongTable x = Check.with(EXPERT);
            x.weighed();
            Check.tell(x, Examples.alike(EVEN, 6, "2 20 0 0 20"));
            e.due("weighed()", x.weighed(), -1);
            int[] want = {3, 1, 1, 1, 1, 4, 0, 1};
            for (int i = 0; i < want.length; i++) {
                e.due("weighedAt(" + i + ")", x.weighedAt(i), want[i]);
            }
        });
        e.edge("stay behind another MATTER and a FAULT", () -> {
            LongTable x = Check.with(EXPERT);
            x.weighed();
            Check.tell(x, Examples.ONE);
            Check.matter(x, "?");
            e.due("weighedAt(0)", x.weighedAt(0), 3);
            e.due("weighedAt(4)", x.weighedAt(4), 1);
        });
        e.edge("the latest of two", () -> {
            LongTable x = Check.with(EXPERT);
            x.weighed();
            Check.tell(x, Examples.ONE);
            x.weighed();
            int[] want = {0, -1, -1, -1, -1, 1, 0, 1};
            for (int i = 0; i < want.length; i++) {
                e.due("weighedAt(" + i + ")", x.weighedAt(i), want[i]);
            }
        });
    }

    private static void weighedAtNone(Edges e) {
        e.says(40, "NONE: there is none such, or ahead of any.");
        for (int i : new int[] {-1, 8, 9, MIN, MAX}) {
            e.edge("weighedAt(" + i + ")", () -> {
                LongTable x = Check.with(EXPERT);
                x.weighed();
                e.due("weighedAt", x.weighedAt(i), -1);
            });
        }
        e.edge("VOTER 3 and 4 of three", () -> {
            LongTable x = Check.with(Examples.THREE);
            x.weighed();
            e.due("weighedAt(2)", x.weighedAt(2), 1);
            e.due("weighedAt(3)", x.weighedAt(3), -1);
            e.due("weighedAt(4)", x.weighedAt(4), -1);
        });
        e.edge("ahead of any", () -> {
            for (int i = 0; i < 8; i++) {
                e.due("weighedAt(" + i + ")", new LongTable().weighedAt(i), -1);
                e.due("weighedAt(" + i + ") of a MATTER", Check.with(EXPERT).weighedAt(i), -1);
            }
        });
        e.edge("ahead of any that was not NONE", () -> {
            LongTable x = Check.with(Examples.alike(EVEN, 6, "2 20 0 0 20"));
            x.weighed();
            for (int i = 0; i < 8; i++) {
                e.due("weighedAt(" + i + ")", x.weighedAt(i), -1);
            }
        });
    }
}
