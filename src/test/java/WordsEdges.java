import java.util.Arrays;

/** Edges of promises 34 to 36 and 41: believed, minutes, shut, guess. */
final class WordsEdges {
    private static final int MIN = Integer.MIN_VALUE;
    private static final int MAX = Integer.MAX_VALUE;
    /** v knows one of three TRUTHS, w sees nothing: of a and b together a is decided, of c and another one c. */
    private static final String SIGHT = "truth a 6;truth b 6;truth c 8;voter v sees 3 20 0 0 0 20 0 0 0 20;"
        + "voter w sees 2 10 10 10 10 10 10;";
    /** x knows, and would have it decided wrongly. */
    private static final String LIAR = Examples.KNOWER + "loss x a b 0;loss x a a 9;loss x b a 0;loss x b b 9;";
    /** x never has SIGN 0; y knows. */
    private static final String NEVER = "truth a 1;truth b 19;voter x sees 2 0 20 0 20;voter y sees 2 20 0 0 20;";
    private static final int[][] NO_VOTES = {{}, {0}, {0, 0, 0}, {0, 2}, {2, 0}, {0, 3}, {0, 8}, {0, 10}, {255, 0}, {0, 137}};
    private static final int[][] NO_SIGN = {{-1, 0}, {2, 0}, {7, 0}, {MIN, 0}, {MAX, 0}, {0, -1}, {0, 2}, {1, 3}, {1, MIN},
        {0, MAX}};

    private WordsEdges() {
    }

    static void all(Edges e) {
        believed(e);
        parts(e);
        believedOfNone(e);
        minutes(e);
        minutesOfNone(e);
        shut(e);
        shutOfNone(e);
        guess(e);
        guessOfNone(e);
    }

    private static void believed(Edges e) {
        e.says(34, "1 WORDS of VOTER v to VOTER w by a part (0 to 4, or 1) are BELIEVED, 0 not");
        e.edge("of two SIGNS 0 and 1", () -> {
            e.due("believed(0, 1, 0)", Check.with(LIAR).believed(0, 1, 0), 1);
            e.due("believed(0, 1, 1)", Check.with(LIAR).believed(0, 1, 1), 0);
        });
        e.edge("of three SIGNS 0 to 4", () -> partsOf(e, "loss v b b 9;loss v b c 9;", 1, 1, 1, 0, 0));
        e.edge("to and from the seventh VOTER", () -> {
            LongTable x = Check.with(Examples.alike("truth a 10;truth b 10;", 7, "2 20 0 0 20"));
            e.due("believed(6, 0, 1)", x.believed(6, 0, 1), 1);
            e.due("believed(0, 6, 1)", x.believed(0, 6, 1), 1);
        });
        e.says(34, "WORDS of VOTER v to VOTER w: v's SIGNS parted into WORDS. w, hearing one and having the own SIGN, decides what"
            + " loses least by w's LOSSES (the least); BELIEVED: with no SIGN (that has a CASE) would v lose less, by v's LOSSES,"
            + " by another one of the WORDS.");
        // With a and b together w, who sees nothing, decides a, as they are like: v, with b, would as soon have c.
        e.edge("of like ones w decides the least", () -> partsOf(e, "loss v b a 9;", 1, 0, 1, 1, 1));
        e.edge("by w's LOSSES", () -> {
            // w would have it decided wrongly, so that v had better say the contrary.
            String text = "truth a 10;truth b 10;voter v sees 2 20 0 0 20;voter w sees 2 10 10 10 10;";
            e.due("believed(0, 1, 1)", Check.with(text).believed(0, 1, 1), 1);
            e.due("believed(0, 1, 1) of a w who hears it wrong", Check.with(
                text + "loss w a b 0;loss w a a 9;loss w b a 0;loss w b b 9;").believed(0, 1, 1), 0);
        });
        e.edge("not by COMMON LOSSES, where w has own ones", () -> partsOf(e,
            "loss b a 50;loss w b a 1;loss v b a 9;", 1, 0, 1, 1, 1));
        // With SIGN 1 w is sure of a, with SIGN 0 the WORD counts.
        e.edge("having the own SIGN", () -> e.due("believed(0, 1, 1)", Check.with(
            "truth a 10;truth b 10;voter v sees 2 20 0 0 20;voter w sees 2 10 10 20 0;loss v a a 9;loss v a b 0;loss v b b 9;"
            + "loss v b a 0;").believed(0, 1, 1), 0));
        // Of 2 times 12 and 3 times 8 PARTS w decides a, which is what v would have; with one less each it would be b.
        e.edge("of like ones by a WORD w decides the least", () -> e.due("believed(0, 1, 1)", Check.with(
            "truth a 12;truth b 8;voter v sees 2 2 18 3 17;voter w sees 2 10 10 10 10;loss v a b 2;").believed(0, 1, 1), 1));
        e.edge("no WORD but those of the part", () -> {
            // w decides b by any WORD; v would have a decided.
            LongTable x = Check.with("truth a 1;truth b 19;voter v sees 3 10 5 5 10 5 5;voter w sees 2 10 10 10 10;"
                + "loss v b b 9;");
            for (int part = 0; part < 5; part++) {
                e.due("believed(0, 1, " + part + ")", x.believed(0, 1, part), 1);
            }
        });
        e.edge("as much lost by another one is no lie", () -> partsOf(e, "loss v b b 1;", 1, 1, 1, 1, 1));
        e.edge("all v's LOSSES 0", () -> e.due("believed(0, 1, 1)", Check.with(
            Examples.KNOWER + "loss x a b 0;loss x b a 0;").believed(0, 1, 1), 1));
        e.edge("one WORD has no other", () -> e.due("believed(0, 1, 0)", Check.with(LIAR).believed(0, 1, 0), 1));
        e.edge("w knows anyhow", () -> e.due("believed(1, 0, 4)", Check.with(
            Examples.KNOWER + "loss y a b 0;loss y a a 9;loss y b a 0;loss y b b 9;").believed(1, 0, 4), 1));
        e.edge("with a SIGN that has no CASE v loses nothing by any", () -> e.due("believed(0, 1, 1)", Check.with(
            NEVER).believed(0, 1, 1), 1));
        e.edge("a WORD for a SIGN that has no CASE is one of the WORDS: w decides 0", () -> e.due("believed(0, 1, 1)",
            Check.with(NEVER + "loss x b b 9;").believed(0, 1, 1), 0));
        e.edge("ways, WEIGHTS and the RULE have no part in it", () -> e.due("believed(0, 1, 1)", Check.with(
            LIAR + "way x set none none;weight y 0;rule need 1 a else a;").believed(0, 1, 1), 0));
    }

    private static void partsOf(Edges e, String losses, int... want) {
        LongTable x = Check.with(SIGHT + losses);
        for (int part = 0; part < 5; part++) {
            e.due("believed(0, 1, " + part + ")", x.believed(0, 1, part), want[part]);
        }
    }

    private static void parts(Edges e) {
        e.says(34, "Parts are numbered: 0 all one; of three SIGNS 1: 0 and 1 together, 2: 0 and 2, 3: 1 and 2, 4 all apart; of two"
            + " SIGNS 1 apart.");
        // v, with b, would have a decided, but not c.
        e.edge("of three: 3 and 4 have a WORD for a alone", () -> partsOf(e, "loss v b b 9;loss v b c 9;", 1, 1, 1, 0, 0));
        // v, with b, would have c decided, but not a.
        e.edge("of three: 3 alone has one for b and c", () -> partsOf(e, "loss v b b 9;loss v b a 9;", 1, 0, 0, 1, 0));
        // v, with a, would have b decided, but not c.
        e.edge("of three: 2 and 4 have a WORD for b alone", () -> partsOf(e, "loss v a a 9;loss v a c 9;", 1, 1, 0, 1, 0));
        e.edge("of two: 1 is apart", () -> e.due("believed(0, 1, 1)", Check.with(LIAR).believed(0, 1, 1), 0));
        e.edge("of two: 0 is one", () -> e.due("believed(0, 1, 0)", Check.with(LIAR).believed(0, 1, 0), 1));
    }

    private static void believedOfNone(Edges e) {
        e.says(34, "NONE: no such ones, or one.");
        int[][] wrong = {{0, 0, 0}, {1, 1, 0}, {0, 2, 0}, {2, 0, 0}, {-1, 0, 0}, {0, -1, 0}, {2, 2, 0}, {MIN, 0, 0},
            {0, MAX, 0}, {7, 0, 0}, {0, 1, -1}, {0, 1, 2}, {0, 1, 4}, {0, 1, MIN}, {0, 1, MAX}, {1, 0, -1}, {1, 0, 5},
            {1, 0, MIN}, {1, 0, MAX}};
        for (int[] w : wrong) {
            e.edge("believed" + Arrays.toString(w) + " of VOTERS with 2 and 3", () -> e.due("believed",
                Check.with(Examples.KNOWER).believed(w[0], w[1], w[2]), -1));
        }
        e.edge("part 4 of three SIGNS is one, of two not", () -> {
            e.due("believed(1, 0, 4)", Check.with(Examples.KNOWER).believed(1, 0, 4), 1);
            e.due("believed(0, 1, 4)", Check.with(Examples.KNOWER).believed(0, 1, 4), -1);
        });
        e.edge("of one VOTER", () -> e.due("believed(0, 0, 0)", Check.with(Examples.ONE).believed(0, 0, 0), -1));
        e.edge("without a MATTER", () -> e.due("believed(0, 1, 0)", new LongTable().believed(0, 1, 0), -1));
    }

    private static long minutes(LongTable x, int v, int s, int... votes) {
        Check.tape(x, votes);
        return x.minutes(v, s);
    }

    private static void minutes(Edges e) {
        // y has the same vote with SIGNS 0 and 2, and none with 1.
        String text = Examples.KNOWER + "way y set a none a;";
        e.says(35, "MINUTES, the tape's bytes being all votes (a TRUTH, 9 for none): PARTS in which VOTER v has SIGN s");
        e.edge("9 for none", () -> e.due("minutes(1, 1)", minutes(Check.with(text), 1, 1, 0, 9), 10 * 20 * 5));
        e.edge("TRUTH 2 of three", () -> e.due("minutes(0, 2)", minutes(Check.with(Examples.PLAIN_SIGHT), 0, 2, 2), 200));
        e.edge("all votes, not SIGNS", () -> e.due("minutes(0, 0)", minutes(Check.with(
            Examples.KNOWER + "way x set b a;"), 0, 0, 1, 0), 10 * 20 * 15));
        e.edge("of seven VOTERS, the greatest", () -> e.due("minutes(6, 0)", minutes(Check.with(
            Examples.alike("truth a 19;truth b 1;", 7, "2 20 0 20 0")), 6, 0, 0, 0, 0, 0, 0, 0, 0), 25600000000L));
        e.says(35, "MINUTES: of all CASES in which the votes are as told (or just what is DECIDED is) the PARTS in which a VOTER has"
            + " a SIGN.");
        e.edge("two SIGNS with the same vote", () -> {
            e.due("minutes(1, 0)", minutes(Check.with(text), 1, 0, 0, 0), 10 * 20 * 5);
            e.due("minutes(1, 2)", minutes(Check.with(text), 1, 2, 0, 0), 10 * 20 * 10);
        });
        e.edge("a SIGN with another vote", () -> {
            e.due("minutes(1, 1)", minutes(Check.with(text), 1, 1, 0, 0), 0);
            e.due("minutes(0, 1)", minutes(Check.with(text), 0, 1, 0, 0), 0);
        });
        e.edge("votes that never are", () -> {
            e.due("minutes(0, 0)", minutes(Check.with(text), 0, 0, 0, 1), 0);
            e.due("minutes(1, 0)", minutes(Check.with(text), 1, 0, 9, 0), 0);
        });
        e.edge("the same behind other calls", () -> {
            LongTable x = Check.with(text);
            x.right();
            x.knows(0);
            e.due("minutes(1, 2)", minutes(x, 1, 2, 0, 0), 2000);
            x.bestRule();
            x.turns(1, 0);
            e.due("minutes(0, 0) of votes that never are", minutes(x, 0, 0, 0, 1), 0);
            e.due("minutes(1, 0) of votes that never are", minutes(x, 1, 0, 9, 0), 0);
        });
        e.edge("the tape is empty behind it", () -> {
            LongTable x = Check.with(text);
            minutes(x, 0, 0, 0, 1);
            e.due("count(2)", x.count(2), 0);
        });
    }

    private static void minutesOfNone(Edges e) {
        e.says(35, "NoSuchElementException: not as told (the tape stays then).");
        for (int[] votes : NO_VOTES) {
            e.edge("votes " + Arrays.toString(votes) + " of two TRUTHS and VOTERS", () -> {
                LongTable x = Check.with(Examples.KNOWER);
                Check.tape(x, votes);
                e.dueThrow("minutes(0, 0)", () -> x.minutes(0, 0));
                e.due("count(2)", x.count(2), votes.length);
            });
        }
        for (int[] w : NO_SIGN) {
            e.edge("VOTER " + w[0] + ", SIGN " + w[1] + " of VOTERS with 2 and 3", () -> {
                LongTable x = Check.with(Examples.KNOWER);
                Check.tape(x, 0, 0);
                e.dueThrow("minutes", () -> x.minutes(w[0], w[1]));
                e.due("count(2)", x.count(2), 2);
                e.due("minutes(1, 2) with what stayed", x.minutes(1, 2), 2000);
            });
        }
        e.edge("a full tape", () -> {
            LongTable x = Check.with(Examples.ONE);
            Check.tape(x, new int[740]);
            e.dueThrow("minutes(0, 0)", () -> x.minutes(0, 0));
            e.due("count(2)", x.count(2), 740);
        });
        e.edge("TRUTH 3 of three", () -> {
            LongTable x = Check.with(Examples.PLAIN_SIGHT);
            Check.tape(x, 3);
            e.dueThrow("minutes(0, 0)", () -> x.minutes(0, 0));
        });
        e.edge("without a MATTER", () -> {
            LongTable x = new LongTable();
            e.dueThrow("minutes(0, 0)", () -> x.minutes(0, 0));
            Check.tape(x, 0);
            e.dueThrow("minutes(0, 0) of a vote", () -> x.minutes(0, 0));
            e.due("count(2)", x.count(2), 1);
        });
    }

    private static void shut(Edges e) {
        e.says(36, "Of CASES in which d is DECIDED the PARTS in which VOTER v has SIGN s.");
        // b is decided, if x sees it and y does not vote a.
        String text = Examples.KNOWER + "way y set a none b;";
        e.edge("what is DECIDED, not what one votes for", () -> {
            e.due("shut(1, 1, 2)", Check.with(text).shut(1, 1, 2), 10 * 20 * 5);
            e.due("shut(0, 1, 2)", Check.with(text).shut(0, 1, 2), 10 * 20 * 10);
        });
        e.edge("what is so with that SIGN is never DECIDED so", () -> e.due("shut(1, 0, 0)", Check.with(text).shut(1, 0, 0), 0));
        e.edge("a TRUTH that is never DECIDED", () -> e.due("shut(2, 0, 2)", Check.with(
            Examples.PLAIN_SIGHT + "way x set a b a;").shut(2, 0, 2), 0));
        e.edge("what is so is the third TRUTH", () -> {
            e.due("shut(2, 0, 2)", Check.with(Examples.PLAIN_SIGHT).shut(2, 0, 2), 200);
            e.due("shut(0, 0, 2)", Check.with(Examples.PLAIN_SIGHT + "way x set a b a;").shut(0, 0, 2), 200);
            e.due("shut(1, 0, 2)", Check.with(Examples.PLAIN_SIGHT + "way x set a b b;").shut(1, 0, 2), 200);
        });
        e.edge("all, of seven VOTERS", () -> e.due("shut(0, 6, 0)", Check.with(
            Examples.alike("truth a 19;truth b 1;", 7, "2 20 0 20 0")).shut(0, 6, 0), 25600000000L));
        e.edge("the chair's vote with that SIGN", () -> {
            LongTable x = Check.with(Examples.KNOWER + "weight x 0;weight y 0;rule most chair y;way y set b none b;");
            e.due("shut(1, 1, 0)", x.shut(1, 1, 0), 10 * 20 * 5 + 10 * 20 * 10);
            e.due("shut(1, 1, 1)", x.shut(1, 1, 1), 0);
        });
    }

    private static void shutOfNone(Edges e) {
        e.says(36, "NoSuchElementException: no such ones.");
        for (int[] w : NO_SIGN) {
            e.edge("VOTER " + w[0] + ", SIGN " + w[1] + " of VOTERS with 2 and 3", () -> {
                LongTable x = Check.with(Examples.KNOWER);
                e.dueThrow("shut", () -> x.shut(0, w[0], w[1]));
            });
        }
        for (int d : new int[] {-1, 2, 3, 9, MIN, MAX}) {
            e.edge("TRUTH " + d + " of two", () -> {
                LongTable x = Check.with(Examples.KNOWER);
                e.dueThrow("shut", () -> x.shut(d, 0, 0));
            });
        }
        e.edge("TRUTH 3 of three", () -> {
            LongTable x = Check.with(Examples.PLAIN_SIGHT);
            e.dueThrow("shut", () -> x.shut(3, 0, 0));
        });
        e.edge("without a MATTER", () -> e.dueThrow("shut", () -> new LongTable().shut(0, 0, 0)));
    }

    private static int guess(LongTable x, int... votes) {
        Check.tape(x, votes);
        return x.guess();
    }

    private static void guess(Edges e) {
        e.says(41, "The TRUTH with the most PARTS of all CASES in which the votes are the tape's bytes (the least of like ones)");
        e.edge("of two like ones the least", () -> e.due("guess()", guess(Check.with(
            "truth a 10;truth b 10;voter x sees 2 10 10 10 10;way x set b none;"), 1), 0));
        e.edge("of like ones b and c, a having less, b", () -> e.due("guess()", guess(Check.with(
            "truth a 4;truth b 8;truth c 8;voter x sees 2 10 10 10 10 10 10;way x set c c;"), 2), 1));
        e.edge("one PART more", () -> e.due("guess()", guess(Check.with(
            "truth a 19;truth b 1;voter x sees 2 1 19 20 0;way x set a none;"), 0), 1));
        e.edge("one PART alone", () -> e.due("guess()", guess(Check.with(
            "truth a 1;truth b 19;voter x sees 2 1 19 0 20;way x set a b;"), 0), 0));
        e.edge("the same behind other calls", () -> {
            LongTable x = Check.with(Examples.KNOWER + "way y set a none a;");
            x.right();
            x.knows(0);
            e.due("guess()", guess(x, 1, 9), 1);
            x.bestRule();
            e.due("guess() of votes that never are", guess(x, 1, 1), -1);
        });
        e.edge("of two SIGNS with the same vote together", () -> e.due("guess()", guess(Check.with(
            "truth a 10;truth b 10;voter x sees 3 8 4 8 7 6 7;way x set b none b;"), 1), 0));
        e.edge("9 for none", () -> e.due("guess()", guess(Check.with(Examples.ONE + "way x set a none;"), 9), 1));
        e.edge("LOSSES have no part in it", () -> e.due("guess()", guess(Check.with(
            Examples.ONE + "loss a b 50;loss x a b 50;"), 0), 1));
        e.edge("of seven VOTERS", () -> e.due("guess()", guess(Check.with(
            Examples.alike("truth a 10;truth b 10;", 7, "2 15 5 5 15")), 0, 0, 0, 1, 1, 1, 1), 1));
    }

    private static void guessOfNone(Edges e) {
        e.says(41, "NONE: there is no such CASE, or not as told.");
        e.edge("a vote that one never has", () -> e.due("guess()", guess(Check.with(Examples.KNOWER), 9, 0), -1));
        e.edge("votes that are never together", () -> e.due("guess()", guess(Check.with(
            Examples.alike("truth a 10;truth b 10;", 2, "2 20 0 0 20")), 0, 1), -1));
        e.edge("a vote with a SIGN alone that is never seen", () -> e.due("guess()", guess(Check.with(
            "truth a 1;truth b 19;voter x sees 3 10 10 0 10 10 0;"), 0), -1));
        for (int[] votes : NO_VOTES) {
            e.edge(Arrays.toString(votes) + " of two TRUTHS and VOTERS", () -> e.due("guess()", guess(
                Check.with(Examples.KNOWER), votes), -1));
        }
        e.edge("TRUTH 3 of three", () -> e.due("guess()", guess(Check.with(Examples.PLAIN_SIGHT), 3), -1));
        e.edge("a full tape", () -> e.due("guess()", guess(Check.with(Examples.ONE), new int[740]), -1));
        e.edge("without a MATTER", () -> {
            e.due("guess()", guess(new LongTable()), -1);
            e.due("guess() of a vote", guess(new LongTable(), 0), -1);
        });
    }
}
