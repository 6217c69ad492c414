/** Edges of promises 37, 38, 42 and 43: fits, fitAt, many, run. */
final class FitsEdges {
    private static final int MIN = Integer.MIN_VALUE;
    private static final int MAX = Integer.MAX_VALUE;
    private static final String EVEN = "truth a 10;truth b 10;";
    /** Any table is FIT, as nothing but a is ever decided. */
    private static final String ALWAYS_A = "rule need 1 a else a;";
    private static final String SIX_SIGNS = Examples.alike("truth a 4;truth b 6;truth c 10;", 2, "3 20 0 0 0 20 0 0 0 20");
    private static final String SEVEN_SIGNS = Examples.alike(EVEN, 2, "2 20 0 0 20") + "voter z sees 3 20 0 0 0 0 20;";

    private FitsEdges() {
    }

    static void all(Edges e) {
        fits(e);
        fitsOfNone(e);
        fitAt(e);
        fitAtNone(e);
        many(e);
        manyOfNone(e);
        run(e);
        draws(e);
        runOfNone(e);
    }

    private static void fits(Edges e, String text, int want, int... votes) {
        LongTable x = Check.with(text);
        e.due("fits()", x.fits(), want);
        int at = 0;
        for (int v = 0; v < x.count(1); v++) {
            for (int s = 0; s < x.signs(v); s++) {
                e.due("fitAt(" + v + ", " + s + ")", x.fitAt(v, s), votes[at]);
                at++;
            }
        }
    }

    private static void fits(Edges e) {
        e.says(37, "How many FITS there are");
        e.edge("one", () -> fits(e, Examples.ONE, 1, 1, 1));
        e.edge("all 9 of two SIGNS and two TRUTHS", () -> fits(e, Examples.ONE + ALWAYS_A, 9, 0, 0));
        e.edge("all 64 of three SIGNS and three TRUTHS", () -> fits(e, Examples.PLAIN_SIGHT + ALWAYS_A, 64, 0, 0, 0));
        e.says(37, "FITS (where all VOTERS together have 6 SIGNS at most): of all tables of votes (VOTER by VOTER, SIGN by SIGN; a"
            + " TRUTH or none) those that are FIT; the best of them loses least by COMMON LOSSES, of like ones the first (the least"
            + " at the first place where they are unlike; none behind all TRUTHS).");
        e.edge("6 SIGNS of three VOTERS: all 729", () -> fits(e, Examples.alike(EVEN, 3, "2 20 0 0 20") + ALWAYS_A, 729,
            0, 0, 0, 0, 0, 0));
        e.edge("6 SIGNS of two VOTERS and three TRUTHS: all 4096", () -> fits(e, SIX_SIGNS + ALWAYS_A, 4096,
            0, 0, 0, 0, 0, 0));
        // With the SIGN of a: no b, or one b too many for either alone; with the SIGN of b: a b at least.
        e.edge("of two who can each make it b: 5 times 5", () -> fits(e,
            Examples.alike(EVEN, 2, "2 20 0 0 20") + "rule need 1 b else a;", 25, 0, 0, 0, 1));
        e.edge("of three who can each make it b: 15 times 19", () -> fits(e,
            Examples.alike(EVEN, 3, "2 20 0 0 20") + "rule need 1 b else a;", 285, 0, 0, 0, 0, 0, 1));
        // With the SIGN of a: an a, or none at all; of b: those that decide b, and a twice, which one alone cannot mend; of c:
        // c and c or none, and a or b twice, or one of each.
        e.edge("of two who see which of three TRUTHS it is: 8 times 6 times 7", () -> fits(e, SIX_SIGNS, 336,
            0, 1, 2, 0, 1, 2));
        e.edge("a TRUTH ahead of none that is as good", () -> fits(e, Examples.PLAIN_SIGHT, 2, 0, 1, 2));
        // By own LOSSES, all 0, any table is FIT.
        e.edge("the best by COMMON LOSSES, not the first", () -> fits(e, EVEN + "voter x sees 2 20 0 0 20;loss x a b 0;"
            + "loss x b a 0;", 9, 0, 1));
        e.edge("of like ones the first: what is never seen", () -> fits(e,
            "truth a 1;truth b 19;voter x sees 3 10 10 0 10 10 0;way x set b b none;", 3, 1, 1, 0));
        e.edge("the votes told have no part in it", () -> fits(e, Examples.ONE + "way x set none a;", 1, 1, 1));
        e.edge("what was settled has no part in it", () -> {
            LongTable x = Check.with(SIX_SIGNS + ALWAYS_A + "way p set c c c;way q set none none none;");
            x.settle();
            e.due("fits()", x.fits(), 4096);
            for (int v = 0; v < 2; v++) {
                for (int s = 0; s < 3; s++) {
                    e.due("fitAt(" + v + ", " + s + ")", x.fitAt(v, s), 0);
                }
            }
            e.due("fits() again", x.fits(), 4096);
        });
        e.edge("of all VOTERS now, not of more who were", () -> {
            LongTable x = new LongTable();
            for (int i = 0; i < 6; i++) {
                Check.tell(x, i % 4 < 2 ? Examples.alike(EVEN, 7, "3 20 0 0 0 0 20") : Examples.ONE + ALWAYS_A);
                e.due("fits()", x.fits(), i % 4 < 2 ? -1 : 9);
            }
        });
        e.edge("none alone is FIT", () -> {
            // y, who sees nothing and weighs more, may but be silent, where x says b; or both say nothing but a or b.
            LongTable x = Check.with(EVEN + "voter x sees 2 20 0 0 20;voter y sees 2 10 10 10 10;weight y 3;");
            x.fits();
            e.due("fitAt(0, 0)", x.fitAt(0, 0), 0);
            e.due("fitAt(0, 1)", x.fitAt(0, 1), 1);
            e.due("fitAt(1, 0)", x.fitAt(1, 0), 9);
            e.due("fitAt(1, 1)", x.fitAt(1, 1), 9);
        });
    }

    private static void fitsOfNone(Edges e) {
        e.says(37, "NONE: no MATTER, or more than 6 SIGNS.");
        e.edge("no MATTER", () -> e.due("fits()", new LongTable().fits(), -1));
        e.edge("2 SIGNS", () -> e.due("fits()", Check.with(Examples.ONE).fits(), 1));
        e.edge("7 SIGNS of three VOTERS", () -> e.due("fits()", Check.with(SEVEN_SIGNS).fits(), -1));
        e.edge("8 SIGNS of four VOTERS", () -> e.due("fits()", Check.with(
            Examples.alike(EVEN, 4, "2 20 0 0 20")).fits(), -1));
        e.edge("21 SIGNS of seven VOTERS", () -> e.due("fits()", Check.with(
            Examples.alike(EVEN, 7, "3 20 0 0 0 0 20")).fits(), -1));
    }

    private static void fitAt(Edges e) {
        e.says(38, "The vote of VOTER v with SIGN s in the best of them, by the latest fits() that told one at least");
        e.edge("stays behind one that is NONE", () -> {
            LongTable x = Check.with(Examples.PLAIN_SIGHT);
            x.fits();
            Check.tell(x, SEVEN_SIGNS);
            e.due("fits()", x.fits(), -1);
            for (int s = 0; s < 3; s++) {
                e.due("fitAt(0, " + s + ")", x.fitAt(0, s), s);
            }
            e.due("fitAt(1, 0)", x.fitAt(1, 0), -1);
        });
        e.edge("stays behind another MATTER, a FAULT and a settle()", () -> {
            LongTable x = Check.with(Examples.PLAIN_SIGHT);
            x.fits();
            Check.tell(x, Examples.ONE);
            Check.matter(x, "?");
            x.settle();
            e.due("fitAt(0, 0)", x.fitAt(0, 0), 0);
            e.due("fitAt(0, 2)", x.fitAt(0, 2), 2);
        });
        e.edge("the latest of two", () -> {
            LongTable x = Check.with(SIX_SIGNS + ALWAYS_A);
            x.fits();
            Check.tell(x, Examples.ONE);
            x.fits();
            e.due("fitAt(0, 0)", x.fitAt(0, 0), 1);
            e.due("fitAt(0, 2)", x.fitAt(0, 2), -1);
            e.due("fitAt(1, 0)", x.fitAt(1, 0), -1);
        });
    }

    private static void fitAtNone(Edges e) {
        e.says(38, "NONE: there is none such, or ahead of any.");
        int[][] wrong = {{-1, 0}, {2, 0}, {6, 2}, {7, 0}, {MIN, 0}, {MAX, 0}, {0, -1}, {0, 3}, {0, MIN}, {0, MAX}};
        for (int[] w : wrong) {
            e.edge("fitAt(" + w[0] + ", " + w[1] + ") of two VOTERS with 3", () -> {
                LongTable x = Check.with(SIX_SIGNS + ALWAYS_A);
                x.fits();
                e.due("fitAt", x.fitAt(w[0], w[1]), -1);
            });
        }
        e.edge("SIGN 2 of two", () -> {
            LongTable x = Check.with(Examples.ONE);
            x.fits();
            e.due("fitAt(0, 2)", x.fitAt(0, 2), -1);
        });
        e.edge("ahead of any", () -> {
            LongTable x = Check.with(SIX_SIGNS);
            for (int v = 0; v < 7; v++) {
                for (int s = 0; s < 3; s++) {
                    e.due("fitAt(" + v + ", " + s + ")", new LongTable().fitAt(v, s), -1);
                    e.due("fitAt(" + v + ", " + s + ") of a MATTER", x.fitAt(v, s), -1);
                }
            }
        });
        e.edge("ahead of any that told one, though settled", () -> {
            LongTable x = Check.with(SEVEN_SIGNS);
            x.fits();
            x.settle();
            e.due("fitAt(0, 0)", x.fitAt(0, 0), -1);
        });
    }

    private static void many(Edges e) {
        e.says(42, "MANY.");
        e.edge("one is right k times", () -> {
            for (int k = 0; k <= 20; k++) {
                e.due("many(1, " + k + ")", new LongTable().many(1, k), k);
            }
        });
        e.edge("with a MATTER, too", () -> e.due("many(3, 15)", Check.with(Examples.ONE).many(3, 15), 6750));
        e.says(42, "MANY: of n VOTERS alike (n 1, 3, .. 11), each right k times of 20, by most: the PARTS of 20^n in which it is"
            + " right (n 11 at most: 20^11).");
        e.edge("k 0", () -> {
            for (int n = 1; n <= 11; n += 2) {
                e.due("many(" + n + ", 0)", new LongTable().many(n, 0), 0);
            }
        });
        e.edge("k 20", () -> {
            long all = 20;
            for (int n = 1; n <= 11; n += 2) {
                e.due("many(" + n + ", 20)", new LongTable().many(n, 20), all);
                all *= 400;
            }
        });
        e.edge("k 10 is half of all", () -> {
            long half = 10;
            for (int n = 1; n <= 11; n += 2) {
                e.due("many(" + n + ", 10)", new LongTable().many(n, 10), half);
                half *= 400;
            }
        });
        e.edge("n 3", () -> e.due("many(3, 1)", new LongTable().many(3, 1), 1 + 3 * 19));
        e.edge("n 5", () -> e.due("many(5, 19)", new LongTable().many(5, 19), 2476099 + 5 * 130321 + 10 * 6859));
        // 1, 11, 55, 165, 330 and 462 ways for 0 to 5 of eleven to be wrong.
        e.edge("n 11, the most, and k 1", () -> e.due("many(11, 1)", new LongTable().many(11, 1), 1 + 11L * 19 + 55L * 361
            + 165L * 6859 + 330L * 130321 + 462L * 2476099));
        e.edge("n 11 and k 19", () -> e.due("many(11, 19)", new LongTable().many(11, 19), 204800000000000L
            - (1 + 11L * 19 + 55L * 361 + 165L * 6859 + 330L * 130321 + 462L * 2476099)));
        e.edge("n 7 and 9", () -> {
            e.due("many(7, 1)", new LongTable().many(7, 1), 1 + 7L * 19 + 21L * 361 + 35L * 6859);
            e.due("many(9, 1)", new LongTable().many(9, 1), 1 + 9L * 19 + 36L * 361 + 84L * 6859 + 126L * 130321);
        });
    }

    private static void manyOfNone(Edges e) {
        e.says(42, "NoSuchElementException: no such n, k (0 to 20).");
        for (int n : new int[] {0, 2, 4, 6, 8, 10, 12, 13, -1, -3, MIN, MAX}) {
            e.edge("n " + n, () -> e.dueThrow("many", () -> new LongTable().many(n, 10)));
        }
        for (int k : new int[] {-1, 21, 40, MIN, MAX}) {
            e.edge("k " + k, () -> {
                e.dueThrow("many(1, k)", () -> new LongTable().many(1, k));
                e.dueThrow("many(11, k)", () -> new LongTable().many(11, k));
            });
        }
    }

    /** Whether the TRUTH of the first CASE is b, if a has some chance. */
    private static long firstIsB(int seed, int chance) {
        return Check.with("truth a " + chance + ";truth b " + (20 - chance) + ";voter x sees 2 20 0 0 20;way x set b b;")
            .run(seed, 1);
    }

    private static void run(Edges e) {
        e.says(43, "A RUN by a seed: in how many of so many CASES it is RIGHT");
        e.edge("1 CASE", () -> e.due("run(0, 1)", firstIsB(0, 8), 1));
        e.edge("1000 CASES, all", () -> {
            LongTable x = Check.with(Examples.PLAIN_SIGHT);
            for (int seed : new int[] {0, 1, -1, MIN, MAX}) {
                e.due("run(" + seed + ", 1000)", x.run(seed, 1000), 1000);
            }
        });
        e.edge("1000 CASES, none", () -> e.due("run(5, 1000)", Check.with(
            Examples.KNOWER + "way x set b a;weight y 0;").run(5, 1000), 0));
        e.edge("the same again by the same seed", () -> {
            LongTable x = Check.with(Examples.THREE);
            int first = x.run(77, 1000);
            x.run(78, 3);
            e.due("run(77, 1000)", x.run(77, 1000), first);
        });
        // The draws by seed 0 are 8, 18, 15, 8, 18, 8.
        e.edge("the draws go on with the second CASE", () -> {
            String know = "voter x sees 2 20 0 0 20;";
            e.due("run(0, 2) of 8 and 15 below 16", Check.with("truth a 16;truth b 4;" + know + "way x set a a;").run(0, 2), 2);
            e.due("run(0, 2) of 8 and 15 not below 15", Check.with("truth a 15;truth b 5;" + know + "way x set a a;")
                .run(0, 2), 1);
        });
        e.edge("the TRUTH, then each VOTER's SIGN in order", () -> {
            // a by 8; p has SIGN 1 by 18 and says a, q SIGN 0 by 15 and says a, too.
            String text = "truth a 9;truth b 11;voter p sees 2 16 4 20 0;voter q sees 2 16 4 20 0;way p set b a;way q set a b;";
            e.due("run(0, 1)", Check.with(text + "rule need 2 a else b;").run(0, 1), 1);
        });
    }

    private static void draws(Edges e) {
        e.says(43, "A RUN by a seed x: for each draw x becomes x * 1103515245 + 12345 (an int, wrapping); the draw is"
            + " (x >>> 8) % 20. CASE by CASE (1 to 1000): the TRUTH, then each VOTER's SIGN, each by a draw: the first whose chance"
            + " and those ahead of it together are above the draw.");
        int[][] first = {{0, 8}, {1, 14}, {-1, 17}, {MAX, 9}, {MIN, 16}};
        for (int[] f : first) {
            e.edge("seed " + f[0] + " draws " + f[1] + ", above which that chance is not", () -> e.due("run",
                firstIsB(f[0], f[1]), 1));
            e.edge("seed " + f[0] + " draws " + f[1] + ", above which one more is", () -> e.due("run",
                firstIsB(f[0], f[1] + 1), 0));
        }
        e.edge("a SIGN by a draw of 18", () -> {
            e.due("run(0, 1) of 18 and 2", Check.with(
                "truth a 9;truth b 11;voter x sees 2 18 2 10 10;way x set b a;").run(0, 1), 1);
            e.due("run(0, 1) of 19 and 1", Check.with(
                "truth a 9;truth b 11;voter x sees 2 19 1 10 10;way x set b a;").run(0, 1), 0);
        });
        e.edge("the third SIGN, the first being never seen", () -> {
            e.due("run(0, 1) of 0, 18 and 2", Check.with(
                "truth a 9;truth b 11;voter x sees 3 0 18 2 10 10 0;way x set b b a;").run(0, 1), 1);
            e.due("run(0, 1) of 0, 19 and 1", Check.with(
                "truth a 9;truth b 11;voter x sees 3 0 19 1 10 10 0;way x set b b a;").run(0, 1), 0);
        });
        e.edge("the third TRUTH", () -> {
            e.due("run(0, 1) of 4, 4 and 12", Check.with(
                "truth a 4;truth b 4;truth c 12;voter x sees 2 20 0 20 0 20 0;way x set c c;").run(0, 1), 1);
            e.due("run(0, 1) of 4, 5 and 11", Check.with(
                "truth a 4;truth b 5;truth c 11;voter x sees 2 20 0 20 0 20 0;way x set c c;").run(0, 1), 0);
        });
        // By the least seed the draws are 16, 10, 7, 0.
        e.edge("a draw of 0 does not see what has no chance", () -> e.due("run(MIN, 2)", Check.with(
            EVEN + "voter x sees 2 0 20 20 0;way x set b a;").run(MIN, 2), 2));
        // By -1 the third draw is 19.
        e.edge("a draw of 19 sees the last twentieth", () -> {
            LongTable x = Check.with("truth a 19;truth b 1;voter x sees 2 20 0 0 20;way x set b b;");
            e.due("run(-1, 1)", x.run(-1, 1), 0);
            e.due("run(-1, 2)", x.run(-1, 2), 1);
        });
    }

    private static void runOfNone(Edges e) {
        e.says(43, "NONE: no MATTER, no such number.");
        for (int cases : new int[] {0, 1001, -1, MIN, MAX}) {
            e.edge(cases + " CASES", () -> e.due("run", Check.with(Examples.ONE).run(1, cases), -1));
        }
        e.edge("no MATTER", () -> {
            e.due("run(0, 1)", new LongTable().run(0, 1), -1);
            e.due("run(0, 1000)", new LongTable().run(0, 1000), -1);
        });
        e.edge("behind a FAULT", () -> {
            LongTable x = new LongTable();
            Check.matter(x, Examples.ONE + "?");
            e.due("run(0, 1)", x.run(0, 1), -1);
        });
    }
}
