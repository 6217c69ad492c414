/** Edges of promises 12 to 16: right, comes, lost, known, knows. */
final class CountEdges {
    private static final int MIN = Integer.MIN_VALUE;
    private static final int MAX = Integer.MAX_VALUE;
    private static final String SEVEN_KNOW = Examples.alike("truth a 10;truth b 10;", 7, "2 20 0 0 20");

    private CountEdges() {
    }

    static void all(Edges e) {
        right(e);
        comes(e);
        lost(e);
        known(e);
        notKnown(e);
        knows(e);
    }

    private static LongTable behindFault() {
        LongTable x = new LongTable();
        Check.matter(x, Examples.ONE + "?");
        return x;
    }

    private static void right(Edges e) {
        e.says(12, "RIGHT");
        e.edge("three, most of whom are right", () -> e.due("right()", Check.with(Examples.THREE).right(), 135000));
        e.says(12, "RIGHT: PARTS of CASES in which the TRUTH is DECIDED.");
        e.edge("all of seven who know", () -> e.due("right()", Check.with(SEVEN_KNOW).right(), 25600000000L));
        e.edge("none", () -> e.due("right()", Check.with(Examples.KNOWER + "way x set b a;weight y 0;").right(), 0));
        e.edge("LOSSES have no part in it", () -> e.due("right()", Check.with(
            Examples.ONE + "loss a b 50;loss x a b 1;loss b b 50;loss x b b 0;").right(), 300));
        e.edge("under the third TRUTH", () -> e.due("right()", Check.with(
            Examples.PLAIN_SIGHT + "way x set c c c;").right(), 200));
        e.says(12, "0 without a MATTER.");
        e.edge("ahead of any", () -> e.due("right()", new LongTable().right(), 0));
        e.edge("behind a FAULT", () -> e.due("right()", behindFault().right(), 0));
    }

    private static void comes(Edges e) {
        e.says(13, "PARTS of CASES in which TRUTH t is so and d is DECIDED.");
        e.edge("t first, d second", () -> {
            LongTable x = Check.with(Examples.PLAIN_SIGHT + "way x set b c b;");
            e.due("comes(0, 1)", x.comes(0, 1), 80);
            e.due("comes(1, 0)", x.comes(1, 0), 0);
            e.due("comes(1, 2)", x.comes(1, 2), 120);
            e.due("comes(2, 1)", x.comes(2, 1), 200);
        });
        e.edge("all of seven who know", () -> {
            e.due("comes(1, 1)", Check.with(SEVEN_KNOW).comes(1, 1), 12800000000L);
            e.due("comes(1, 0)", Check.with(SEVEN_KNOW).comes(1, 0), 0);
        });
        e.says(13, "NoSuchElementException: no such ones.");
        for (int t : new int[] {-1, 2, 3, 9, MIN, MAX}) {
            e.edge("TRUTH " + t + " of two", () -> {
                LongTable x = Check.with(Examples.THREE);
                e.dueThrow("comes(" + t + ", 0)", () -> x.comes(t, 0));
                e.dueThrow("comes(0, " + t + ")", () -> x.comes(0, t));
            });
        }
        e.edge("TRUTH 3 of three", () -> {
            LongTable x = Check.with(Examples.PLAIN_SIGHT);
            e.dueThrow("comes(3, 0)", () -> x.comes(3, 0));
            e.dueThrow("comes(0, 3)", () -> x.comes(0, 3));
        });
        e.edge("without a MATTER", () -> e.dueThrow("comes(0, 0)", () -> new LongTable().comes(0, 0)));
        e.edge("behind a FAULT", () -> e.dueThrow("comes(0, 0)", () -> behindFault().comes(0, 0)));
    }

    private static void lost(Edges e) {
        e.says(14, "LOST");
        e.edge("three, most of whom are right", () -> e.due("lost()", Check.with(Examples.THREE).lost(), 25000));
        e.says(14, "COMMON LOSSES: those told without VOTER (or plain).");
        e.edge("plain ones", () -> e.due("lost()", Check.with(Examples.PLAIN_SIGHT + "way x set b c b;").lost(), 400));
        e.edge("told ones, and plain ones for the others", () -> e.due("lost()", Check.with(
            Examples.PLAIN_SIGHT + "way x set b c b;loss a b 3;").lost(), 80 * 3 + 120 + 200));
        e.edge("none of a VOTER's own", () -> e.due("lost()", Check.with(
            Examples.PLAIN_SIGHT + "way x set b c b;loss x a b 50;loss x b c 0;").lost(), 400));
        e.says(14, "LOST: by the COMMON LOSSES.");
        e.edge("nothing", () -> e.due("lost()", Check.with(SEVEN_KNOW).lost(), 0));
        e.edge("50 each time, of seven VOTERS", () -> e.due("lost()", Check.with(
            SEVEN_KNOW + "loss a a 50;loss b b 50;loss a b 50;loss b a 50;").lost(), 1280000000000L));
        e.edge("0 for what goes wrong", () -> e.due("lost()", Check.with(
            Examples.THREE + "loss yes no 0;loss no yes 0;").lost(), 0));
        e.says(14, "0 without a MATTER.");
        e.edge("ahead of any", () -> e.due("lost()", new LongTable().lost(), 0));
        e.edge("behind a FAULT", () -> e.due("lost()", behindFault().lost(), 0));
    }

    private static void knows(Edges e, String text, int want, int... signs) {
        LongTable x = Check.with(text);
        Check.tape(x, signs);
        e.due("known()", x.known(), want);
    }

    private static void known(Edges e) {
        e.says(15, "The TRUTH KNOWN by the tape's bytes as SIGNS");
        e.edge("of two VOTERS", () -> {
            knows(e, Examples.KNOWER, 0, 0, 0);
            knows(e, Examples.KNOWER, 1, 1, 2);
        });
        e.says(15, "KNOWN: if all SIGNS are on the table: for each row of SIGNS the TRUTH that loses least by COMMON LOSSES"
            + " (the least).");
        e.edge("of two like ones the least", () -> knows(e, "truth a 10;truth b 10;voter x sees 2 10 10 10 10;", 0, 1));
        e.edge("of like ones b and c, a being worse, b", () -> knows(e,
            "truth a 4;truth b 8;truth c 8;voter x sees 2 10 10 10 10 10 10;", 1, 0));
        e.edge("one PART less is less", () -> knows(e, "truth a 19;truth b 1;voter x sees 2 1 19 20 0;", 1, 0));
        e.edge("by COMMON LOSSES, not own ones", () -> {
            knows(e, Examples.ONE + "loss x a b 50;", 1, 0);
            knows(e, Examples.ONE + "loss a b 2;loss x a b 1;", 0, 0);
        });
        e.edge("no CASE with them: the least", () -> {
            knows(e, "truth a 1;truth b 19;voter x sees 3 10 10 0 10 10 0;loss b a 50;", 0, 2);
            knows(e, "truth a 1;truth b 19;voter x sees 2 20 0 0 20;voter y sees 2 20 0 0 20;", 0, 1, 0);
        });
        e.edge("ways, WEIGHTS and the RULE have no part in it", () -> knows(e,
            Examples.KNOWER + "way x set none none;weight x 0;rule need 1 a else a;", 1, 1, 0));
        e.edge("of seven VOTERS", () -> {
            String text = Examples.alike("truth a 10;truth b 10;", 7, "2 15 5 5 15");
            knows(e, text, 0, 0, 0, 0, 0, 1, 1, 1);
            knows(e, text, 1, 0, 0, 0, 1, 1, 1, 1);
        });
    }

    private static void notKnown(Edges e) {
        e.says(15, "NONE: not as told.");
        int[][] rows = {{}, {0}, {0, 0, 0}, {2, 0}, {0, 3}, {9, 0}, {255, 0}, {0, 128}, {0, 0, 0, 0, 0, 0, 0}};
        for (int[] row : rows) {
            e.edge(java.util.Arrays.toString(row) + " of VOTERS with 2 and 3", () -> knows(e, Examples.KNOWER, -1, row));
        }
        e.edge("a full tape", () -> knows(e, Examples.KNOWER, -1, new int[740]));
        e.edge("without a MATTER", () -> {
            LongTable x = new LongTable();
            e.due("known()", x.known(), -1);
            Check.tape(x, 0);
            e.due("known() of a SIGN", x.known(), -1);
        });
    }

    private static void knows(Edges e) {
        e.says(16, "What is LOST, if all is KNOWN (what 0), and how often that is RIGHT (1).");
        e.edge("all, of seven who know", () -> {
            e.due("knows(0)", Check.with(SEVEN_KNOW).knows(0), 0);
            e.due("knows(1)", Check.with(SEVEN_KNOW).knows(1), 25600000000L);
        });
        e.edge("what loses least is not the likeliest", () -> {
            LongTable x = Check.with(Examples.ONE + "loss a b 2;");
            // With SIGN 0 a, as 60 are less than 2 times 50, with SIGN 1 b.
            e.due("knows(0)", x.knows(0), 60 + 2 * 50);
            e.due("knows(1)", x.knows(1), 50 + 240);
        });
        e.edge("of like ones the least is RIGHT", () -> {
            LongTable x = Check.with(Examples.ONE + "loss a b 6;loss b a 5;");
            // With SIGN 0 60 times 5 are 50 times 6; with SIGN 1 b loses 300, a 1200.
            e.due("knows(0)", x.knows(0), 300 + 300);
            e.due("knows(1)", x.knows(1), 50 + 240);
        });
        e.edge("ways, WEIGHTS and the RULE have no part in it", () -> {
            LongTable x = Check.with(Examples.KNOWER + "way x set none none;weight x 0;rule need 1 a else a;");
            e.due("knows(0)", x.knows(0), 0);
            e.due("knows(1)", x.knows(1), 8000);
        });
        e.says(16, "NoSuchElementException: no MATTER, another what.");
        e.edge("no MATTER", () -> {
            e.dueThrow("knows(0)", () -> new LongTable().knows(0));
            e.dueThrow("knows(1)", () -> new LongTable().knows(1));
        });
        e.edge("no MATTER behind a FAULT", () -> e.dueThrow("knows(0)", () -> behindFault().knows(0)));
        for (int what : new int[] {-1, 2, 9, MIN, MAX}) {
            e.edge("knows(" + what + ")", () -> {
                LongTable x = Check.with(Examples.ONE);
                e.dueThrow("knows", () -> x.knows(what));
            });
        }
    }
}
