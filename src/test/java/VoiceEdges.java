/** Edges of promises 17 to 23: turns, think, reply, fit, settle, settled, settles. */
final class VoiceEdges {
    private static final int MIN = Integer.MIN_VALUE;
    private static final int MAX = Integer.MAX_VALUE;
    private static final int[][] NO_SIGN = {{-1, 0}, {2, 0}, {7, 0}, {MIN, 0}, {MAX, 0}, {0, -1}, {0, 2}, {1, 3}, {1, MIN},
        {0, MAX}};
    /** Its votes take 50 rounds to settle, if t begins with b b a, and 51 with b b b. */
    private static final String LONG_WAY = "truth a 7;truth b 13;voter p sees 3 8 10 2 8 7 5;voter q sees 3 4 15 1 2 3 15;"
        + "voter r sees 3 3 9 8 12 8 0;voter s sees 3 6 5 9 14 1 5;voter t sees 3 8 7 5 12 8 0;voter u sees 3 6 2 12 1 12 7;"
        + "weight p 9;way p set b b b;weight q 3;way q set a b a;weight r 8;way r set a b a;weight s 5;way s set b b b;"
        + "weight t 8;way u set a a a;loss p a b 10;loss p b a 9;loss q a a 30;loss q b b 24;loss r a a 33;loss r b b 9;"
        + "loss s a b 9;loss s b a 8;loss t a b 26;loss t b a 4;loss u a a 12;loss u b b 44;rule need 18 a else b;"
        + "way t set b b ";
    /** What the VOTERS with own LOSSES want is never settled. */
    private static final String ROUND_AND_ROUND = "truth ta 11;truth tb 9;voter va sees 2 1 19 7 13;voter vb sees 2 17 3 14 6;"
        + "voter vc sees 2 17 3 4 16;loss vb ta ta 11;loss vb tb tb 8;";
    /** Either can make it b; both begin with a alone. */
    private static final String EITHER = Examples.alike("truth a 10;truth b 10;", 2, "2 20 0 0 20")
        + "rule need 1 b else a;way p set a a;way q set a a;";

    private VoiceEdges() {
    }

    static void all(Edges e) {
        turns(e);
        think(e);
        reply(e);
        replyOfNone(e);
        fit(e);
        rounds(e);
        settle(e);
        settledVotes(e);
        noneSettled(e);
        settles(e);
    }

    private static void turns(Edges e) {
        e.says(17, "PARTS of the CASES in which VOTER v's voice TURNS it with SIGN s.");
        e.edge("with each SIGN", () -> {
            // ann's voice turns it where bob and cy are unlike: 150 of 400 under either TRUTH.
            LongTable x = Check.with(Examples.THREE);
            e.due("turns(0, 0)", x.turns(0, 0), (15 + 5) * 150 * 10);
            e.due("turns(2, 1)", x.turns(2, 1), (15 + 5) * 150 * 10);
        });
        e.edge("all PARTS of seven VOTERS", () -> e.due("turns(0, 0)", Check.with(
            Examples.alike(Examples.TWO, 7, "2 20 0 20 0") + "weight p 7;").turns(0, 0), 25600000000L));
        e.edge("a SIGN that is never seen", () -> e.due("turns(0, 1)", Check.with(
            Examples.alike(Examples.TWO, 7, "2 20 0 20 0") + "weight p 7;").turns(0, 1), 0));
        e.says(17, "TURNS of a VOTER's voice with a SIGN: CASES in which some vote (TRUTHS, none) of the VOTER would have another"
            + " one DECIDED, the others voting as they do.");
        e.edge("another vote would not, with WEIGHT 0", () -> e.due("turns(0, 0)", Check.with(
            Examples.THREE + "weight ann 0;").turns(0, 0), 0));
        e.edge("a chair with WEIGHT 0 among like ones", () -> e.due("turns(1, 2)", Check.with(
            Examples.KNOWER + "weight y 0;rule most chair y;way x set none none;").turns(1, 2), 3000));
        e.edge("the vote now is none, a TRUTH would", () -> e.due("turns(0, 0)", Check.with(
            Examples.ONE + "way x set none none;").turns(0, 0), 110));
        e.edge("the vote now is a TRUTH, another one would", () -> e.due("turns(0, 0)", Check.with(
            Examples.ONE + "way x set a a;").turns(0, 0), 110));
        e.edge("of three TRUTHS the last one would", () -> e.due("turns(0, 0)", Check.with(
            Examples.PLAIN_SIGHT + "rule need 1 c else a;").turns(0, 0), 80));
        e.edge("with a SIGN of the third TRUTH", () -> e.due("turns(0, 2)", Check.with(
            Examples.PLAIN_SIGHT).turns(0, 2), 200));
        e.edge("no vote would, as T and U are the same", () -> e.due("turns(0, 0)", Check.with(
            Examples.ONE + "rule need 1 b else b;").turns(0, 0), 0));
        e.edge("a need that one cannot reach alone", () -> e.due("turns(0, 0)", Check.with(
            Examples.ONE + "rule need 2 b else a;").turns(0, 0), 0));
        e.edge("a need that is reached without one", () -> e.due("turns(0, 0)", Check.with(
            Examples.KNOWER + "way y set a a a;rule need 1 a else b;").turns(0, 0), 0));
        e.edge("others voting as they do with the SIGNS that they may have", () -> {
            // y's voice counts where x says b: x's a is the least of like ones.
            LongTable x = Check.with(Examples.KNOWER);
            e.due("turns(1, 0)", x.turns(1, 0), 10 * 20 * 10);
        });
        noneSuch(e, 17, "turns", LongTable::turns);
    }

    private interface Asking {
        long of(LongTable x, int v, int s);
    }

    private static void noneSuch(Edges e, int promise, String call, Asking asking) {
        e.says(promise, "NoSuchElementException: no such ones.");
        for (int[] w : NO_SIGN) {
            e.edge("VOTER " + w[0] + ", SIGN " + w[1] + " of VOTERS with 2 and 3", () -> {
                LongTable x = Check.with(Examples.KNOWER);
                e.dueThrow(call, () -> asking.of(x, w[0], w[1]));
            });
        }
        e.edge("without a MATTER", () -> e.dueThrow(call, () -> asking.of(new LongTable(), 0, 0)));
        e.edge("a VOTER of the MATTER before", () -> {
            LongTable x = Check.with(Examples.KNOWER);
            Check.tell(x, Examples.ONE);
            e.dueThrow(call, () -> asking.of(x, 1, 0));
        });
    }

    private static void think(Edges e) {
        e.says(18, "Of those the PARTS in which TRUTH t is so.");
        e.edge("they add to turns()", () -> {
            LongTable x = Check.with(Examples.THREE);
            e.due("think(0, 0, 0)", x.think(0, 0, 0), 15 * 150 * 10);
            e.due("think(0, 0, 1)", x.think(0, 0, 1), 5 * 150 * 10);
            e.due("turns(0, 0)", x.turns(0, 0), 20 * 150 * 10);
        });
        e.edge("none of TRUTH a", () -> {
            LongTable x = Check.with(Examples.KNOWER);
            e.due("think(1, 0, 0)", x.think(1, 0, 0), 0);
            e.due("think(1, 0, 1)", x.think(1, 0, 1), 2000);
        });
        e.edge("the third TRUTH", () -> e.due("think(0, 2, 2)", Check.with(Examples.PLAIN_SIGHT).think(0, 2, 2), 200));
        e.edge("0, where nothing TURNS", () -> e.due("think(0, 0, 1)", Check.with(
            Examples.ONE + "weight x 0;").think(0, 0, 1), 0));
        noneSuch(e, 18, "think", (x, v, s) -> x.think(v, s, 0));
        for (int t : new int[] {-1, 2, 3, 9, MIN, MAX}) {
            e.edge("TRUTH " + t + " of two", () -> {
                LongTable x = Check.with(Examples.KNOWER);
                e.dueThrow("think", () -> x.think(0, 0, t));
            });
        }
        e.edge("TRUTH 3 of three", () -> {
            LongTable x = Check.with(Examples.PLAIN_SIGHT);
            e.dueThrow("think", () -> x.think(0, 0, 3));
        });
    }

    private static void reply(Edges e) {
        e.says(19, "REPLY of VOTER v with SIGN s");
        e.edge("of the last VOTER with the last SIGN", () -> e.due("reply(1, 2)", Check.with(
            Examples.KNOWER + "way x set none none;way y set b b b;").reply(1, 2), 0));
        e.says(19, "REPLY with a SIGN: the vote (TRUTHS in order, then none) that loses least by the own LOSSES over all CASES with"
            + " that SIGN, the others voting as they do; the present one, if it is as good.");
        // The least TRUTH is decided without a vote, so that none is as good as a.
        e.edge("of a and none the TRUTH", () -> e.due("reply(0, 0)", Check.with(
            Examples.ONE + "way x set b b;loss x a b 9;").reply(0, 0), 0));
        e.edge("of b and c, both better than the present a, b", () -> e.due("reply(0, 0)", Check.with(
            "truth a 2;truth b 9;truth c 9;voter x sees 2 10 10 10 10 10 10;way x set a a;").reply(0, 0), 1));
        e.edge("the present c is as good as b", () -> e.due("reply(0, 0)", Check.with(
            "truth a 2;truth b 9;truth c 9;voter x sees 2 10 10 10 10 10 10;way x set c c;").reply(0, 0), 2));
        e.edge("the present none is as good as a", () -> e.due("reply(0, 0)", Check.with(
            Examples.ONE + "way x set none none;loss x a b 9;").reply(0, 0), 9));
        e.edge("the present a is as good as none", () -> e.due("reply(0, 0)", Check.with(
            Examples.ONE + "way x set a a;loss x a b 9;").reply(0, 0), 0));
        e.edge("the present b is as good with WEIGHT 0", () -> e.due("reply(0, 0)", Check.with(
            Examples.ONE + "weight x 0;").reply(0, 0), 1));
        e.edge("none alone is best", () -> e.due("reply(1, 0)", Check.with(
            Examples.KNOWER + "weight y 3;").reply(1, 0), 9));
        e.edge("by own LOSSES, not COMMON ones", () -> e.due("reply(0, 0)", Check.with(
            Examples.ONE + "loss a b 9;loss x a b 1;").reply(0, 0), 1));
        e.edge("one PART less is better", () -> e.due("reply(0, 0)", Check.with(
            "truth a 19;truth b 1;voter x sees 2 1 19 20 0;way x set a a;").reply(0, 0), 1));
        e.edge("like LOSSES: the present one", () -> e.due("reply(0, 0)", Check.with(
            Examples.ONE + "loss x a b 6;loss x b a 5;way x set b b;").reply(0, 0), 1));
        e.edge("a SIGN that is never seen: the present one", () -> e.due("reply(0, 2)", Check.with(
            "truth a 1;truth b 19;voter x sees 3 10 10 0 10 10 0;way x set b b none;").reply(0, 2), 9));
    }

    private static void replyOfNone(Edges e) {
        e.says(19, "NONE: no such ones.");
        for (int[] w : NO_SIGN) {
            e.edge("reply(" + w[0] + ", " + w[1] + ") of VOTERS with 2 and 3", () -> e.due("reply",
                Check.with(Examples.KNOWER).reply(w[0], w[1]), -1));
        }
        e.edge("without a MATTER", () -> e.due("reply(0, 0)", new LongTable().reply(0, 0), -1));
    }

    private static void fit(Edges e) {
        e.says(20, "1 the votes are FIT, 0 not");
        e.edge("1", () -> e.due("fit()", Check.with(Examples.THREE).fit(), 1));
        e.edge("0", () -> e.due("fit()", Check.with(Examples.ONE + "way x set a a;").fit(), 0));
        e.says(20, "FIT: all VOTERS' votes are REPLIES, with all SIGNS.");
        e.edge("all but the last VOTER with the last SIGN", () -> e.due("fit()", Check.with(
            Examples.THREE + "way cy set yes yes;").fit(), 0));
        e.edge("all but the first VOTER with the first SIGN", () -> e.due("fit()", Check.with(
            Examples.THREE + "way ann set no no;").fit(), 0));
        e.edge("none, which is as good as a", () -> e.due("fit()", Check.with(
            Examples.KNOWER + "way y set none none none;way x set none b;").fit(), 1));
        e.edge("what is never seen is as good as any", () -> e.due("fit()", Check.with(
            "truth a 1;truth b 19;voter x sees 3 10 10 0 10 10 0;way x set b b none;").fit(), 1));
        e.edge("all wrong, but nobody's voice TURNS it", () -> e.due("fit()", Check.with(
            Examples.THREE + "way ann set no no;way bob set no no;way cy set no no;").fit(), 1));
        e.edge("seven VOTERS", () -> {
            String seven = Examples.alike("truth a 10;truth b 10;", 7, "2 20 0 0 20");
            e.due("fit()", Check.with(seven).fit(), 1);
            e.due("fit() of one who could make it b", Check.with(seven + "rule need 7 b else a;way v set b a;").fit(), 0);
        });
        e.edge("of all VOTERS now, not of more who were", () -> {
            LongTable x = new LongTable();
            String wrong = Examples.alike("truth a 10;truth b 10;", 7, "2 20 0 0 20") + "weight v 9;way v set b a;";
            for (int i = 0; i < 6; i++) {
                Check.tell(x, i % 4 < 2 ? wrong : Examples.ONE);
                e.due("fit()", x.fit(), i % 4 < 2 ? 0 : 1);
            }
        });
        e.says(20, "NONE without a MATTER.");
        e.edge("ahead of any", () -> e.due("fit()", new LongTable().fit(), -1));
        e.edge("behind a FAULT", () -> {
            LongTable x = new LongTable();
            Check.matter(x, Examples.ONE + "?");
            e.due("fit()", x.fit(), -1);
        });
    }

    private static void rounds(Edges e) {
        e.says(21, "SETTLED: after how many rounds (the last one, in which nothing changed, too)");
        e.edge("1, if they are FIT as told", () -> e.due("settle()", Check.with(Examples.THREE).settle(), 1));
        e.edge("2, if one round changes all that is to change", () -> e.due("settle()", Check.with(
            Examples.ONE + "way x set a a;").settle(), 2));
        e.edge("50, the most", () -> e.due("settle()", Check.with(LONG_WAY + "a;").settle(), 50));
        e.edge("the same again, as the ways told stay", () -> {
            LongTable x = Check.with(Examples.ONE + "way x set a a;");
            e.due("settle()", x.settle(), 2);
            e.due("settle() again", x.settle(), 2);
        });
        e.says(21, "SETTLED: round by round each VOTER in order has all own votes replaced by REPLIES at once (from the ways told),"
            + " until in one round nothing changes: FIT; 50 rounds at most.");
        e.edge("the first VOTER first, and the second one knows of it", () -> {
            LongTable x = Check.with(EITHER);
            e.due("settle()", x.settle(), 2);
            e.due("settled(0, 1)", x.settled(0, 1), 1);
            e.due("settled(1, 1)", x.settled(1, 1), 0);
        });
        e.edge("all own votes at once", () -> {
            LongTable x = Check.with(Examples.PLAIN_SIGHT + "way x set b c a;");
            e.due("settle()", x.settle(), 2);
            for (int s = 0; s < 3; s++) {
                e.due("settled(0, " + s + ")", x.settled(0, s), s);
            }
        });
        e.edge("50 rounds end where nothing changes", () -> {
            LongTable x = Check.with(LONG_WAY + "a;");
            x.settle();
            int[][] want = {{0, 0, 0}, {0, 1, 0}, {0, 0, 1}, {0, 0, 0}, {0, 0, 0}, {1, 0, 1}};
            for (int v = 0; v < 6; v++) {
                for (int s = 0; s < 3; s++) {
                    e.due("settled(" + v + ", " + s + ")", x.settled(v, s), want[v][s]);
                }
            }
        });
    }

    private static void settle(Edges e) {
        e.says(21, "NONE: not in 50, or no MATTER.");
        e.edge("51 rounds", () -> e.due("settle()", Check.with(LONG_WAY + "b;").settle(), -1));
        e.edge("never", () -> e.due("settle()", Check.with(ROUND_AND_ROUND).settle(), -1));
        e.edge("no MATTER", () -> e.due("settle()", new LongTable().settle(), -1));
        e.says(21, "The ways told stay.");
        e.edge("vote() is as told", () -> {
            LongTable x = Check.with(Examples.ONE + "way x set a a;");
            x.settle();
            e.due("vote(0, 0)", x.vote(0, 0), 0);
            e.due("right()", x.right(), 100);
            e.due("fit()", x.fit(), 0);
        });
        e.edge("behind one that is NONE, too", () -> {
            LongTable x = Check.with(LONG_WAY + "b;");
            long lost = x.lost();
            x.settle();
            e.due("vote(4, 2)", x.vote(4, 2), 1);
            e.due("lost()", x.lost(), lost);
        });
    }

    private static void settledVotes(Edges e) {
        e.says(22, "The vote of VOTER v with SIGN s in the latest settle() that was not NONE");
        e.edge("a vote of none", () -> {
            LongTable x = Check.with(Examples.KNOWER + "weight y 3;");
            x.settle();
            e.due("settled(1, 2)", x.settled(1, 2), 9);
        });
        e.edge("stays behind another MATTER", () -> {
            LongTable x = Check.with(Examples.PLAIN_SIGHT);
            x.settle();
            Check.tell(x, Examples.ONE);
            e.due("settled(0, 2)", x.settled(0, 2), 2);
        });
        e.edge("stays behind a FAULT", () -> {
            LongTable x = Check.with(Examples.PLAIN_SIGHT);
            x.settle();
            Check.matter(x, "?");
            e.due("settled(0, 2)", x.settled(0, 2), 2);
        });
        e.edge("stays behind one of 51 rounds", () -> {
            LongTable x = Check.with(Examples.PLAIN_SIGHT);
            x.settle();
            Check.tell(x, LONG_WAY + "b;");
            e.due("settle()", x.settle(), -1);
            e.due("settled(0, 1)", x.settled(0, 1), 1);
            e.due("settled(0, 2)", x.settled(0, 2), 2);
            e.due("settled(1, 0)", x.settled(1, 0), -1);
        });
        e.edge("the latest of two", () -> {
            LongTable x = Check.with(Examples.PLAIN_SIGHT);
            x.settle();
            Check.tell(x, Examples.ONE);
            x.settle();
            e.due("settled(0, 0)", x.settled(0, 0), 1);
            e.due("settled(0, 2)", x.settled(0, 2), -1);
        });
    }

    private static void noneSettled(Edges e) {
        e.says(22, "NONE: there is none such, or ahead of any.");
        for (int[] w : NO_SIGN) {
            e.edge("settled(" + w[0] + ", " + w[1] + ") of VOTERS with 2 and 3", () -> {
                LongTable x = Check.with(Examples.KNOWER);
                x.settle();
                e.due("settled", x.settled(w[0], w[1]), -1);
            });
        }
        e.edge("VOTER 7 of seven", () -> {
            LongTable x = Check.with(Examples.alike("truth a 10;truth b 10;", 7, "2 20 0 0 20"));
            x.settle();
            e.due("settled(6, 1)", x.settled(6, 1), 1);
            e.due("settled(7, 0)", x.settled(7, 0), -1);
            e.due("settled(6, 2)", x.settled(6, 2), -1);
        });
        e.edge("ahead of any", () -> {
            LongTable x = Check.with(LONG_WAY + "a;");
            for (int v = 0; v < 7; v++) {
                for (int s = 0; s < 3; s++) {
                    e.due("settled(" + v + ", " + s + ")", new LongTable().settled(v, s), -1);
                    e.due("settled(" + v + ", " + s + ") of a MATTER", x.settled(v, s), -1);
                }
            }
        });
        e.edge("ahead of any that was not NONE", () -> {
            LongTable x = Check.with(LONG_WAY + "b;");
            x.settle();
            e.due("settled(0, 0)", x.settled(0, 0), -1);
        });
        e.edge("ahead of any, though all FITS were sought", () -> {
            LongTable x = Check.with(Examples.ONE);
            x.fits();
            e.due("settled(0, 0)", x.settled(0, 0), -1);
        });
    }

    private static void settles(Edges e) {
        e.says(23, "RIGHT (what 0), LOST (1) with those votes");
        e.edge("of the votes, not of the ways", () -> {
            LongTable x = Check.with(Examples.ONE + "way x set a a;loss a b 3;loss x a b 1;");
            x.settle();
            e.due("settles(0)", x.settles(0), 300);
            e.due("settles(1)", x.settles(1), 300);
        });
        e.edge("of 50 rounds", () -> {
            LongTable x = Check.with(LONG_WAY + "a;");
            x.settle();
            e.due("settles(0)", x.settles(0), 448000000L);
            e.due("settles(1)", x.settles(1), 832000000L);
        });
        e.edge("nothing LOST", () -> {
            LongTable x = Check.with(Examples.PLAIN_SIGHT);
            x.settle();
            e.due("settles(0)", x.settles(0), 400);
            e.due("settles(1)", x.settles(1), 0);
        });
        e.edge("stay behind one that is NONE and another MATTER", () -> {
            LongTable x = Check.with(Examples.ONE);
            x.settle();
            Check.tell(x, ROUND_AND_ROUND);
            x.settle();
            e.due("settles(0)", x.settles(0), 300);
            e.due("settles(1)", x.settles(1), 100);
        });
        e.says(23, "NONE for another what, or ahead of any.");
        for (int what : new int[] {-1, 2, 9, MIN, MAX}) {
            e.edge("settles(" + what + ")", () -> {
                LongTable x = Check.with(Examples.ONE);
                x.settle();
                e.due("settles", x.settles(what), -1);
            });
        }
        e.edge("ahead of any", () -> {
            for (int what = 0; what < 2; what++) {
                e.due("settles(" + what + ")", new LongTable().settles(what), -1);
                e.due("settles(" + what + ") of a MATTER", Check.with(Examples.ONE).settles(what), -1);
            }
        });
        e.edge("ahead of any that was not NONE", () -> {
            LongTable x = Check.with(LONG_WAY + "b;");
            x.settle();
            e.due("settles(0)", x.settles(0), -1);
            e.due("settles(1)", x.settles(1), -1);
        });
    }
}
