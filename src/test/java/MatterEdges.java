/** Edges of promises 6 to 11: count, signs, parts, all, vote, decided. */
final class MatterEdges {
    private static final int MIN = Integer.MIN_VALUE;
    private static final int MAX = Integer.MAX_VALUE;
    private static final String THREE_TRUTHS = "truth a 4;truth b 6;truth c 10;";
    /** With SIGN 2 no CASE. */
    private static final String NO_CASE = "truth a 1;truth b 19;voter x sees 3 10 10 0 10 10 0;";

    private MatterEdges() {
    }

    static void all(Edges e) {
        count(e);
        signs(e);
        partsOfCases(e);
        partsOfNone(e);
        allParts(e);
        vote(e);
        noVote(e);
        honest(e);
        plainly(e);
        shy(e);
        set(e);
        need(e);
        most(e);
        chair(e);
        decided(e);
        emptied(e);
    }

    private static void count(Edges e) {
        e.says(6, "0 TRUTHS, 1 VOTERS, 2 bytes of the tape");
        e.edge("2 TRUTHS, 1 VOTER", () -> {
            e.due("count(0)", Check.with(Examples.ONE).count(0), 2);
            e.due("count(1)", Check.with(Examples.ONE).count(1), 1);
        });
        e.edge("3 TRUTHS", () -> e.due("count(0)", Check.with(Examples.PLAIN_SIGHT).count(0), 3));
        e.edge("7 VOTERS", () -> e.due("count(1)", Check.with(
            Examples.alike(Examples.TWO, 7, "2 10 10 20 0")).count(1), 7));
        e.edge("0, 20 and 740 bytes", () -> {
            LongTable x = Check.with(Examples.ONE);
            e.due("count(2)", x.count(2), 0);
            x.feed(0, 0, 0, 0, 0);
            e.due("count(2)", x.count(2), 20);
            for (int i = 0; i < 40; i++) {
                x.feed(0, 0, 0, 0, 0);
            }
            e.due("count(2)", x.count(2), 740);
        });
        e.edge("the bytes stay", () -> {
            LongTable x = Check.with(Examples.ONE);
            Check.tape(x, 0);
            e.due("count(2)", x.count(2), 1);
            e.due("count(2) again", x.count(2), 1);
        });
        e.says(6, "NONE for another what");
        for (int what : new int[] {-1, 3, 9, MIN, MAX}) {
            e.edge("count(" + what + ")", () -> {
                e.due("count", Check.with(Examples.ONE).count(what), -1);
                e.due("count without a MATTER", new LongTable().count(what), -1);
            });
        }
        e.says(6, "(0, 0 without a MATTER)");
        e.edge("ahead of any", () -> {
            e.due("count(0)", new LongTable().count(0), 0);
            e.due("count(1)", new LongTable().count(1), 0);
        });
        e.edge("behind a FAULT that comes behind TRUTHS and a VOTER", () -> {
            LongTable x = new LongTable();
            Check.matter(x, Examples.ONE + "?");
            e.due("count(0)", x.count(0), 0);
            e.due("count(1)", x.count(1), 0);
        });
        e.edge("the bytes are counted all the same", () -> {
            LongTable x = new LongTable();
            x.feed(0, 0, 0, 0, 0);
            e.due("count(2)", x.count(2), 20);
        });
    }

    private static void signs(Edges e) {
        e.says(7, "How many SIGNS VOTER v has");
        e.edge("2 and 3", () -> {
            LongTable x = Check.with(Examples.KNOWER);
            e.due("signs(0)", x.signs(0), 2);
            e.due("signs(1)", x.signs(1), 3);
        });
        e.edge("the seventh VOTER", () -> {
            LongTable x = Check.with(Examples.alike(Examples.TWO, 6, "2 10 10 20 0") + "voter v sees 3 1 1 18 0 0 20;");
            e.due("signs(5)", x.signs(5), 2);
            e.due("signs(6)", x.signs(6), 3);
        });
        e.says(7, "NONE: no such one.");
        for (int v : new int[] {-1, 2, 6, 7, MIN, MAX}) {
            e.edge("signs(" + v + ") of two VOTERS", () -> e.due("signs", Check.with(Examples.KNOWER).signs(v), -1));
        }
        e.edge("signs(7) of seven VOTERS", () -> e.due("signs(7)", Check.with(
            Examples.alike(Examples.TWO, 7, "2 10 10 20 0")).signs(7), -1));
        e.edge("without a MATTER", () -> e.due("signs(0)", new LongTable().signs(0), -1));
        e.edge("a VOTER of the MATTER before", () -> {
            LongTable x = Check.with(Examples.THREE);
            Check.tell(x, Examples.ONE);
            e.due("signs(1)", x.signs(1), -1);
        });
    }

    private static long parts(LongTable x, int t, int... signs) {
        Check.tape(x, signs);
        return x.parts(t);
    }

    private static void partsOfCases(Edges e) {
        e.says(8, "PARTS of the CASE of TRUTH t and the tape's bytes, a SIGN of each VOTER.");
        e.edge("of the last TRUTH and SIGNS", () -> e.due("parts(1)", parts(Check.with(Examples.KNOWER), 1, 1, 2),
            10 * 20 * 5));
        e.edge("of the third TRUTH", () -> e.due("parts(2)", parts(Check.with(Examples.PLAIN_SIGHT), 2, 2), 200));
        e.edge("the tape is empty behind it", () -> {
            LongTable x = Check.with(Examples.KNOWER);
            parts(x, 0, 0, 0);
            e.due("count(2)", x.count(2), 0);
            e.dueThrow("parts(0) again", () -> x.parts(0));
        });
        e.says(8, "A CASE: a TRUTH and each VOTER's SIGN; its PARTS: the product of the TRUTH's chance and of all SIGNS'"
            + " under it (SIGNS independent)");
        e.edge("0, if one SIGN is never seen", () -> e.due("parts(0)", parts(Check.with(Examples.KNOWER), 0, 1, 0), 0));
        e.edge("the least above 0", () -> e.due("parts(0)", parts(Check.with(
            Examples.alike("truth a 1;truth b 19;", 7, "2 1 19 1 19")), 0, 0, 0, 0, 0, 0, 0, 0), 1));
        e.edge("the greatest, of seven VOTERS", () -> e.due("parts(0)", parts(Check.with(
            Examples.alike("truth a 19;truth b 1;", 7, "2 0 20 20 0")), 0, 1, 1, 1, 1, 1, 1, 1), 24320000000L));
        e.edge("votes, WEIGHTS and LOSSES have no part in it", () -> e.due("parts(0)", parts(Check.with(
            Examples.ONE + "way x set none none;weight x 0;loss a a 9;rule need 9 b else b;"), 0, 0), 50));
    }

    private static void partsOfNone(Edges e) {
        e.says(8, "NoSuchElementException: no such ones (the tape stays then).");
        for (int t : new int[] {-1, 2, 3, 9, MIN, MAX}) {
            e.edge("TRUTH " + t + " of two", () -> {
                LongTable x = Check.with(Examples.KNOWER);
                Check.tape(x, 0, 2);
                e.dueThrow("parts", () -> x.parts(t));
                e.due("count(2)", x.count(2), 2);
                e.due("parts(0) with what stayed", x.parts(0), 2000);
            });
        }
        e.edge("TRUTH 3 of three", () -> {
            LongTable x = Check.with(Examples.PLAIN_SIGHT);
            Check.tape(x, 0);
            e.dueThrow("parts(3)", () -> x.parts(3));
        });
        int[][] rows = {{}, {0}, {0, 0, 0}, {2, 0}, {0, 3}, {9, 0}, {255, 0}, {0, 128}, {0, 0, 0, 0, 0, 0, 0}};
        for (int[] row : rows) {
            e.edge("SIGNS " + java.util.Arrays.toString(row) + " of VOTERS with 2 and 3", () -> {
                LongTable x = Check.with(Examples.KNOWER);
                Check.tape(x, row);
                e.dueThrow("parts(0)", () -> x.parts(0));
                e.due("count(2)", x.count(2), row.length);
            });
        }
        e.edge("a full tape", () -> {
            LongTable x = Check.with(Examples.KNOWER);
            Check.tape(x, new int[740]);
            e.dueThrow("parts(0)", () -> x.parts(0));
            e.due("count(2)", x.count(2), 740);
        });
        e.edge("no MATTER, and an empty tape", () -> e.dueThrow("parts(0)", () -> new LongTable().parts(0)));
        e.edge("no MATTER, and a SIGN", () -> {
            LongTable x = new LongTable();
            Check.tape(x, 0);
            e.dueThrow("parts(0)", () -> x.parts(0));
            e.due("count(2)", x.count(2), 1);
        });
    }

    private static void allParts(Edges e) {
        e.says(9, "PARTS of all CASES together: 20^(n + 1)");
        e.edge("of one VOTER", () -> e.due("all()", Check.with(Examples.ONE).all(), 400));
        e.edge("of seven VOTERS", () -> e.due("all()", Check.with(
            Examples.alike(Examples.TWO, 7, "2 10 10 20 0")).all(), 25600000000L));
        e.edge("of three TRUTHS", () -> e.due("all()", Check.with(Examples.PLAIN_SIGHT).all(), 400));
        e.says(9, "of all CASES together 20^(n + 1), n being how many VOTERS there are. All chances are told in PARTS,"
            + " LOSSES as sums of PARTS times LOSS.");
        e.edge("they add to it CASE by CASE", () -> {
            LongTable x = Check.with("truth a 3;truth b 17;voter x sees 2 7 13 4 16;voter y sees 3 1 2 17 0 9 11;");
            long sum = 0;
            for (int i = 0; i < 12; i++) {
                sum += parts(x, i / 6, i / 3 % 2, i % 3);
            }
            e.due("all PARTS", sum, 8000);
            e.due("all()", x.all(), sum);
        });
        e.edge("a LOSS of 1 each time is all PARTS once, of 50 fifty times", () -> {
            String text = Examples.alike(Examples.TWO, 7, "2 10 10 20 0");
            e.due("lost()", Check.with(text + "loss a a 1;loss b b 1;").lost(), 25600000000L);
            e.due("lost()", Check.with(text + "loss a a 50;loss b b 50;loss a b 50;loss b a 50;").lost(), 1280000000000L);
        });
        e.says(9, "0 without a MATTER.");
        e.edge("ahead of any", () -> e.due("all()", new LongTable().all(), 0));
        e.edge("behind a FAULT", () -> {
            LongTable x = new LongTable();
            Check.matter(x, Examples.ONE + "?");
            e.due("all()", x.all(), 0);
        });
    }

    private static void vote(Edges e) {
        e.says(10, "The vote of VOTER v with SIGN s: a TRUTH, 9 for none");
        e.edge("each of three TRUTHS", () -> {
            LongTable x = Check.with(Examples.PLAIN_SIGHT);
            for (int s = 0; s < 3; s++) {
                e.due("vote(0, " + s + ")", x.vote(0, s), s);
            }
        });
        e.edge("none", () -> e.due("vote(0, 1)", Check.with(Examples.ONE + "way x set a none;").vote(0, 1), 9));
        e.edge("of the seventh VOTER with the third SIGN", () -> e.due("vote(6, 2)", Check.with(
            Examples.alike(Examples.TWO, 6, "2 10 10 20 0") + "voter v sees 3 1 1 18 0 0 20;way v set a a none;")
            .vote(6, 2), 9));
        e.edge("WEIGHT 0 and the RULE have no part in it", () -> e.due("vote(0, 0)", Check.with(
            Examples.ONE + "weight x 0;rule need 1 a else a;").vote(0, 0), 1));
    }

    private static void noVote(Edges e) {
        e.says(10, "NONE: no such ones.");
        int[][] wrong = {{-1, 0}, {2, 0}, {7, 0}, {MIN, 0}, {MAX, 0}, {0, -1}, {0, 2}, {1, 3}, {0, MIN}, {1, MAX}, {1, -1}};
        for (int[] w : wrong) {
            e.edge("vote(" + w[0] + ", " + w[1] + ") of VOTERS with 2 and 3", () -> e.due("vote",
                Check.with(Examples.KNOWER).vote(w[0], w[1]), -1));
        }
        e.edge("without a MATTER", () -> e.due("vote(0, 0)", new LongTable().vote(0, 0), -1));
        e.edge("a third SIGN of the MATTER before", () -> {
            LongTable x = Check.with(Examples.PLAIN_SIGHT);
            Check.tell(x, Examples.ONE);
            e.due("vote(0, 2)", x.vote(0, 2), -1);
        });
    }

    private static void honest(Edges e) {
        e.says(10, "A VOTER's vote hangs on the own SIGN");
        e.edge("other VOTERS have no part in it", () -> e.due("vote(0, 0)", Check.with(
            Examples.ONE + "voter y sees 2 20 0 0 20;weight y 9;rule most chair y;").vote(0, 0), 1));
        e.says(10, "honest: the TRUTH that, decided, loses least by the own LOSSES, over all CASES with that SIGN"
            + " (of like ones the least; with none: 0)");
        e.edge("of two like ones the least", () -> e.due("vote(0, 0)", Check.with(
            "truth a 10;truth b 10;voter x sees 2 10 10 10 10;").vote(0, 0), 0));
        e.edge("of like ones b and c, a being worse, b", () -> e.due("vote(0, 0)", Check.with(
            "truth a 4;truth b 8;truth c 8;voter x sees 2 10 10 10 10 10 10;").vote(0, 0), 1));
        // 60 times 5 are 50 times 6.
        e.edge("like ones by LOSSES", () -> e.due("vote(0, 0)", Check.with(
            Examples.ONE + "loss x a b 6;loss x b a 5;").vote(0, 0), 0));
        e.edge("one PART less is less", () -> e.due("vote(0, 0)", Check.with(
            "truth a 19;truth b 1;voter x sees 2 1 19 20 0;").vote(0, 0), 1));
        e.edge("all LOSSES 0: all are like", () -> e.due("vote(0, 0)", Check.with(
            Examples.ONE + "loss a b 0;loss b a 0;").vote(0, 0), 0));
        e.edge("a LOSS for what is so", () -> e.due("vote(0, 0)", Check.with(Examples.ONE + "loss x b b 9;").vote(0, 0), 0));
        e.edge("with no CASE: 0", () -> e.due("vote(0, 2)", Check.with(NO_CASE).vote(0, 2), 0));
        e.edge("with no CASE: 0, though that costs most", () -> e.due("vote(0, 2)", Check.with(
            NO_CASE + "loss b a 50;loss a a 50;").vote(0, 2), 0));
        e.edge("with CASES of one TRUTH alone", () -> e.due("vote(0, 1)", Check.with(
            "truth a 19;truth b 1;voter x sees 2 20 0 19 1;").vote(0, 1), 1));
        e.edge("the greatest LOSS on the least chance", () -> e.due("vote(0, 0)", Check.with(
            "truth a 1;truth b 19;voter x sees 2 20 0 20 0;loss x a b 50;").vote(0, 0), 0));
    }

    private static void plainly(Edges e) {
        e.says(10, "plain: the TRUTH under which the SIGN is likeliest (the least)");
        e.edge("whatever its chance", () -> e.due("vote(0, 0)", Check.with(
            "truth a 1;truth b 19;voter x sees 2 11 9 10 10;way x plain;").vote(0, 0), 0));
        e.edge("whatever the LOSSES", () -> e.due("vote(0, 0)", Check.with(
            Examples.ONE + "loss x b a 50;way x plain;").vote(0, 0), 0));
        e.edge("of two like ones the least", () -> e.due("vote(0, 0)", Check.with(
            "truth a 1;truth b 19;voter x sees 2 10 10 10 10;way x plain;").vote(0, 0), 0));
        e.edge("of like ones b and c, a being less likely, b", () -> e.due("vote(0, 0)", Check.with(
            "truth a 4;truth b 6;truth c 10;voter x sees 2 9 11 10 10 10 10;way x plain;").vote(0, 0), 1));
        e.edge("c, if it is likelier by one", () -> e.due("vote(0, 0)", Check.with(
            "truth a 4;truth b 6;truth c 10;voter x sees 2 9 11 9 11 10 10;way x plain;").vote(0, 0), 2));
        e.edge("with a SIGN that is never seen", () -> e.due("vote(0, 2)", Check.with(
            NO_CASE + "way x plain;").vote(0, 2), 0));
    }

    private static void shy(Edges e) {
        e.says(10, "shy k: as honest, if its TRUTH has k twentieths at least of the PARTS of all CASES with that SIGN, else none");
        String even = "truth a 10;truth b 10;voter x sees 2 15 5 5 15;way x shy ";
        e.edge("just k", () -> e.due("vote(0, 0)", Check.with(even + "15;").vote(0, 0), 0));
        e.edge("one less than k", () -> e.due("vote(0, 0)", Check.with(even + "16;").vote(0, 0), 9));
        // 60 of 110 are 10.9 twentieths.
        e.edge("more than 10, less than 11", () -> {
            e.due("vote(0, 0) of shy 10", Check.with(Examples.ONE + "way x shy 10;").vote(0, 0), 1);
            e.due("vote(0, 0) of shy 11", Check.with(Examples.ONE + "way x shy 11;").vote(0, 0), 9);
        });
        e.edge("shy 1", () -> e.due("vote(0, 0)", Check.with(even + "1;").vote(0, 0), 0));
        e.edge("shy 20 and all PARTS", () -> e.due("vote(0, 0)", Check.with(
            Examples.KNOWER + "way x shy 20;").vote(0, 0), 0));
        e.edge("shy 20 and all PARTS but one", () -> e.due("vote(0, 0)", Check.with(
            "truth a 19;truth b 1;voter x sees 2 20 0 1 19;way x shy 20;").vote(0, 0), 9));
        // By LOSSES x is for a, which has 50 of 110: 9.1 twentieths.
        e.edge("the TRUTH that loses least, not the likeliest", () -> {
            e.due("vote(0, 0) of shy 9", Check.with(Examples.ONE + "loss x a b 2;way x shy 9;").vote(0, 0), 0);
            e.due("vote(0, 0) of shy 10", Check.with(Examples.ONE + "loss x a b 2;way x shy 10;").vote(0, 0), 9);
        });
        // 4, 6 and 10 twentieths.
        e.edge("of the PARTS of three TRUTHS", () -> {
            String text = "truth a 4;truth b 6;truth c 10;voter x sees 2 10 10 10 10 10 10;way x shy ";
            e.due("vote(0, 0) of shy 10", Check.with(text + "10;").vote(0, 0), 2);
            e.due("vote(0, 0) of shy 11", Check.with(text + "11;").vote(0, 0), 9);
        });
        e.edge("with no CASE 0, of which 0 are k twentieths", () -> e.due("vote(0, 2)", Check.with(
            NO_CASE + "way x shy 20;").vote(0, 2), 0));
    }

    private static void set(Edges e) {
        e.says(10, "set: as told.");
        e.edge("SIGN by SIGN", () -> {
            LongTable x = Check.with(Examples.PLAIN_SIGHT + "way x set c none b;");
            e.due("vote(0, 0)", x.vote(0, 0), 2);
            e.due("vote(0, 1)", x.vote(0, 1), 9);
            e.due("vote(0, 2)", x.vote(0, 2), 1);
        });
        e.edge("with no CASE, too", () -> e.due("vote(0, 2)", Check.with(
            NO_CASE + "way x set a a b;").vote(0, 2), 1));
    }

    /** Each VOTER's SIGN is the TRUTH that is voted for. */
    private static String open(int voters) {
        return Examples.alike(THREE_TRUTHS, voters, "3 20 0 0 0 20 0 0 0 20");
    }

    private static void decides(Edges e, String text, int want, int... signs) {
        LongTable x = Check.with(text);
        Check.tape(x, signs);
        e.due("decided() of " + java.util.Arrays.toString(signs), x.decided(), want);
    }

    private static void need(Edges e) {
        e.says(11, "DECIDED by votes: need k T else U: T, if WEIGHTS of votes for T are k at least, else U");
        e.edge("just k", () -> decides(e, open(3) + "rule need 2 b else c;", 1, 1, 0, 1));
        e.edge("one less than k", () -> decides(e, open(3) + "rule need 2 b else c;", 2, 1, 0, 0));
        e.edge("more than k", () -> decides(e, open(3) + "rule need 2 b else c;", 1, 1, 1, 1));
        e.edge("votes for U are not counted", () -> decides(e, open(3) + "rule need 2 b else c;", 2, 2, 2, 1));
        e.edge("neither T nor U has a vote", () -> decides(e, open(3) + "rule need 1 b else c;", 2, 0, 0, 0));
        e.edge("WEIGHTS, not votes", () -> decides(e, open(3) + "weight q 2;rule need 2 b else c;", 1, 0, 1, 0));
        e.edge("63, the greatest WEIGHTS", () -> decides(e, open(7) + Examples.each(7, "weight", "9")
            + "rule need 63 b else c;", 1, 1, 1, 1, 1, 1, 1, 1));
        e.edge("64, more than the greatest", () -> decides(e, open(7) + Examples.each(7, "weight", "9")
            + "rule need 64 b else c;", 2, 1, 1, 1, 1, 1, 1, 1));
        e.edge("81", () -> decides(e, open(7) + Examples.each(7, "weight", "9") + "rule need 81 b else c;",
            2, 1, 1, 1, 1, 1, 1, 1));
        e.edge("need 1 without WEIGHT", () -> decides(e, open(1) + "weight p 0;rule need 1 b else c;", 2, 1));
        e.edge("need 1 with a vote that is none", () -> decides(e, open(1)
            + "way p set none none none;rule need 1 b else c;", 2, 1));
        e.edge("T and U the same", () -> {
            decides(e, open(1) + "rule need 1 b else b;", 1, 0);
            decides(e, open(1) + "rule need 1 b else b;", 1, 1);
        });
    }

    private static void most(Edges e) {
        e.says(11, "most: the TRUTH with the greatest WEIGHTS of votes; of like ones that of the chair, if it is among them,"
            + " else the least.");
        e.edge("one more", () -> decides(e, open(3), 2, 0, 2, 2));
        e.edge("WEIGHTS, not votes", () -> decides(e, open(3) + "weight p 3;", 0, 0, 2, 2));
        e.edge("of two like ones the least", () -> decides(e, open(2), 1, 2, 1));
        e.edge("of two like ones the least, though there was a chair", () -> decides(e,
            open(2) + "rule most chair p;rule most;", 1, 2, 1));
        e.edge("of three like ones the least", () -> decides(e, open(3), 0, 2, 1, 0));
        e.edge("of two like WEIGHTS the least", () -> decides(e, open(3) + "weight p 2;", 1, 2, 1, 1));
        e.edge("of none with a vote the least", () -> decides(e, open(1) + "way p set none none none;", 0, 2));
        e.edge("of none with a WEIGHT the least", () -> decides(e, open(2) + "weight p 0;weight q 0;", 0, 2, 2));
        e.edge("none is no TRUTH", () -> decides(e, open(3) + "way p set none none none;way q set none none none;",
            2, 0, 0, 2));
        e.edge("seven of WEIGHT 9", () -> decides(e, open(7) + Examples.each(7, "weight", "9"), 2, 0, 0, 0, 2, 2, 2, 2));
    }

    private static void chair(Edges e) {
        e.says(11, "of like ones that of the chair, if it is among them, else the least.");
        e.edge("the chair's", () -> {
            decides(e, open(2) + "rule most chair p;", 2, 2, 1);
            decides(e, open(2) + "rule most chair q;", 1, 2, 1);
        });
        e.edge("the chair's of three", () -> decides(e, open(3) + "rule most chair p;", 2, 2, 1, 0));
        e.edge("the chair's is not among them", () -> decides(e, open(5) + "rule most chair p;", 1, 0, 1, 1, 2, 2));
        e.edge("the chair has no vote", () -> decides(e, open(3) + "way p set none none none;rule most chair p;", 1, 2, 1, 2));
        e.edge("the chair has no WEIGHT, but a vote", () -> decides(e, open(3) + "weight p 0;rule most chair p;", 2, 2, 1, 2));
        e.edge("all have 0, and the chair a vote", () -> decides(e, open(1) + "weight p 0;rule most chair p;", 2, 2));
        e.edge("there are no like ones", () -> decides(e, open(3) + "rule most chair p;", 1, 0, 1, 1));
        e.edge("the seventh VOTER's", () -> decides(e, open(7) + "weight p 0;rule most chair v;", 2, 0, 1, 1, 1, 2, 2, 2));
    }

    private static void decided(Edges e) {
        e.says(11, "What is DECIDED with the tape's bytes as SIGNS");
        e.edge("SIGNS, not votes", () -> decides(e, Examples.KNOWER + "way x set b a;way y set none none none;", 1, 0, 0));
        e.edge("SIGNS that have no CASE", () -> decides(e, NO_CASE + "way x set a a b;", 1, 2));
        e.says(11, "NONE: not as told.");
        int[][] rows = {{}, {0}, {0, 0, 0}, {2, 0}, {0, 3}, {9, 0}, {255, 0}, {0, 128}, {0, 0, 0, 0, 0, 0, 0}};
        for (int[] row : rows) {
            e.edge(java.util.Arrays.toString(row) + " of VOTERS with 2 and 3", () -> decides(e, Examples.KNOWER, -1, row));
        }
        e.edge("a full tape", () -> decides(e, Examples.KNOWER, -1, new int[740]));
        e.edge("without a MATTER", () -> {
            LongTable x = new LongTable();
            e.due("decided()", x.decided(), -1);
            Check.tape(x, 0);
            e.due("decided() of a SIGN", x.decided(), -1);
        });
    }

    private interface Reading {
        long of(LongTable x);
    }

    private static void empties(Edges e, String call, boolean answers, int[] row, Reading reading) {
        e.edge(call + (answers ? " that answers" : " that is NONE"), () -> {
            LongTable x = Check.with(Examples.KNOWER);
            Check.tape(x, 0, 1);
            x.inTurns();
            Check.tape(x, row);
            e.due(call + " answers", reading.of(x) != -1, answers);
            e.due("count(2)", x.count(2), 0);
        });
        if (!answers) {
            e.edge(call + " without a MATTER", () -> {
                LongTable x = new LongTable();
                Check.tape(x, row);
                e.due(call, reading.of(x), -1);
                e.due("count(2)", x.count(2), 0);
            });
        }
    }

    private static void emptied(Edges e) {
        e.says(4, "(empty then, with a FAULT, too, here and below)");
        int[] good = {0, 1};
        int[] wrong = {0, 1, 1};
        empties(e, "decided()", true, good, LongTable::decided);
        empties(e, "decided()", false, wrong, LongTable::decided);
        empties(e, "known()", true, good, LongTable::known);
        empties(e, "known()", false, wrong, LongTable::known);
        empties(e, "inTurns()", true, good, LongTable::inTurns);
        empties(e, "inTurns()", false, wrong, LongTable::inTurns);
        empties(e, "says()", true, good, LongTable::says);
        empties(e, "says()", false, wrong, LongTable::says);
        // x knows a, y follows: a CLIFF at turn 1.
        empties(e, "cliff()", true, good, LongTable::cliff);
        empties(e, "cliff()", false, wrong, LongTable::cliff);
        empties(e, "guess()", true, good, LongTable::guess);
        empties(e, "guess()", false, wrong, LongTable::guess);
        e.edge("parts() that answers", () -> {
            LongTable x = Check.with(Examples.KNOWER);
            Check.tape(x, 0, 1);
            x.parts(0);
            e.due("count(2)", x.count(2), 0);
        });
        e.edge("minutes() that answers", () -> {
            LongTable x = Check.with(Examples.KNOWER);
            Check.tape(x, 0, 1);
            x.minutes(0, 0);
            e.due("count(2)", x.count(2), 0);
        });
        e.edge("no call that does not read it", () -> {
            LongTable x = Check.with(Examples.KNOWER);
            Check.tape(x, 0, 1);
            x.fault();
            x.signs(0);
            x.all();
            x.vote(0, 0);
            x.right();
            x.comes(0, 0);
            x.lost();
            x.knows(0);
            x.turns(0, 0);
            x.think(0, 0, 0);
            x.reply(0, 0);
            x.fit();
            x.settle();
            x.settled(0, 0);
            x.settles(0);
            x.herd(0);
            x.bestOrder();
            x.bestRule();
            x.bar(0, 1);
            x.barLost();
            x.silent();
            x.helps(0, 1);
            x.believed(0, 1, 0);
            x.shut(0, 0, 0);
            x.fits();
            x.fitAt(0, 0);
            x.weighed();
            x.weighedAt(0);
            x.many(3, 15);
            x.run(1, 5);
            e.due("count(2)", x.count(2), 2);
            e.due("decided()", x.decided(), 0);
        });
    }
}
