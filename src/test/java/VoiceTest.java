/** Promises 17 to 23: turns, think, reply, fit, settle, settled, settles. */
public final class VoiceTest {
    private static final Check CHECK = new Check();

    public static void main(String[] args) {
        turns();
        replies();
        fit();
        settles();
        settledStays();
        neverSettles();
        wrongInputs();
        CHECK.end("VoiceTest");
    }

    private static void turns() {
        LongTable x = Check.with(Examples.THREE);
        // ann's voice turns it where bob and cy are unlike: 2 * 15 * 5 of 400.
        CHECK.due("turns(0, 0)", x.turns(0, 0), (15 + 5) * 150 * 10);
        CHECK.due("think(0, 0, 0)", x.think(0, 0, 0), 15 * 150 * 10);
        CHECK.due("think(0, 0, 1)", x.think(0, 0, 1), 5 * 150 * 10);
        CHECK.due("think(0, 1, 1)", x.think(0, 1, 1), 15 * 150 * 10);
        // With WEIGHT 0 nobody's voice turns it; none turns what a TRUTH alone would not.
        LongTable y = Check.with(Examples.THREE + "weight ann 0;");
        CHECK.due("turns(0, 0) of WEIGHT 0", y.turns(0, 0), 0);
        LongTable z = Check.with(Examples.ONE + "rule need 2 b else a;weight x 2;way x set a a;");
        CHECK.due("turns(0, 0) by another vote", z.turns(0, 0), 110);
        LongTable chair = Check.with(Examples.KNOWER + "weight y 0;rule most chair y;way x set none none;");
        CHECK.due("turns(1, 2) of a chair without WEIGHT", chair.turns(1, 2), 3000);
    }

    private static void replies() {
        LongTable x = Check.with(Examples.KNOWER + "weight y 3;way y set a none b;");
        // y's voice can but spoil what x knows: it had better be silent.
        CHECK.due("reply(1, 0)", x.reply(1, 0), 9);
        CHECK.due("reply(1, 1)", x.reply(1, 1), 9);
        CHECK.due("reply(1, 2)", x.reply(1, 2), 9);
        CHECK.due("reply(0, 0)", x.reply(0, 0), 0);
        CHECK.due("reply(0, 1)", x.reply(0, 1), 1);
        // By own LOSSES; the present one, if it is as good.
        CHECK.due("reply by own LOSSES", Check.with(Examples.ONE + "loss x a b 9;loss a b 0;").reply(0, 0), 0);
        CHECK.due("present none is as good", Check.with(Examples.ONE + "way x set none none;loss x a b 9;").reply(0, 0), 9);
        CHECK.due("present b is as good", Check.with(Examples.ONE + "weight x 0;").reply(0, 0), 1);
        CHECK.due("of like better ones the first", Check.with(
            Examples.ONE + "way x set b b;loss x a b 9;").reply(0, 0), 0);
        // A SIGN without CASES: any vote is as good.
        CHECK.due("no CASE", Check.with("truth a 1;truth b 19;voter x sees 3 10 10 0 10 10 0;"
            + "way x set b b none;").reply(0, 2), 9);
    }

    private static void fit() {
        CHECK.due("fit()", Check.with(Examples.THREE).fit(), 1);
        CHECK.due("fit() of one who is not", Check.with(Examples.THREE + "way cy set yes yes;").fit(), 0);
        CHECK.due("fit() of one SIGN that is not", Check.with(Examples.THREE + "way cy set no no;").fit(), 0);
        CHECK.due("fit() of none", Check.with(Examples.ONE + "weight x 0;way x set none none;").fit(), 1);
    }

    private static void settles() {
        LongTable x = Check.with(Examples.THREE);
        CHECK.due("settle()", x.settle(), 1);
        LongTable y = Check.with(Examples.ONE + "way x set a a;");
        CHECK.due("settle()", y.settle(), 2);
        CHECK.due("settled(0, 0)", y.settled(0, 0), 1);
        CHECK.due("settled(0, 1)", y.settled(0, 1), 1);
        CHECK.due("settles(0)", y.settles(0), 300);
        CHECK.due("settles(1)", y.settles(1), 100);
        CHECK.due("vote(0, 0) stays", y.vote(0, 0), 0);
        CHECK.due("right() stays", y.right(), 100);
    }

    private static void settledStays() {
        LongTable x = new LongTable();
        CHECK.due("settled(0, 0) ahead of any", x.settled(0, 0), -1);
        CHECK.due("settles(0) ahead of any", x.settles(0), -1);
        CHECK.due("settles(1) ahead of any", x.settles(1), -1);
        CHECK.due("settle() without", x.settle(), -1);
        CHECK.due("fit() without", x.fit(), -1);
        Check.matter(x, Examples.KNOWER + "weight y 3;way y set a none b;loss a b 2;");
        CHECK.due("settles(1) ahead of any", x.settles(1), -1);
        CHECK.due("settle()", x.settle(), 2);
        CHECK.due("settles(2)", x.settles(2), -1);
        CHECK.due("settles(-1)", x.settles(-1), -1);
        // Another MATTER does not change what was settled.
        Check.matter(x, Examples.ONE + "way x set a a;");
        int[][] want = {{0, 1, -1}, {9, 9, 9}, {-1, -1, -1}};
        for (int v = 0; v < 3; v++) {
            for (int s = 0; s < 3; s++) {
                CHECK.due("settled(" + v + ", " + s + ")", x.settled(v, s), want[v][s]);
            }
        }
        CHECK.due("settles(0)", x.settles(0), 8000);
        CHECK.due("settles(1)", x.settles(1), 0);
        CHECK.due("settle() anew", x.settle(), 2);
        CHECK.due("settled(0, 0)", x.settled(0, 0), 1);
        CHECK.due("settled(1, 0)", x.settled(1, 0), -1);
        CHECK.due("settled(0, 2)", x.settled(0, 2), -1);
    }

    /** One of three wants the wrong TRUTH decided: the votes go round and round. */
    private static void neverSettles() {
        LongTable x = Check.with(Examples.ONE + "way x set a a;");
        x.settle();
        Check.matter(x, "truth ta 11;truth tb 9;voter va sees 2 1 19 7 13;voter vb sees 2 17 3 14 6;"
            + "voter vc sees 2 17 3 4 16;loss vb ta ta 11;loss vb tb tb 8;");
        CHECK.due("settle() that never ends", x.settle(), -1);
        CHECK.due("settled(0, 1) of the one before", x.settled(0, 1), 1);
        CHECK.due("settled(1, 0) of the one before", x.settled(1, 0), -1);
        CHECK.due("settles(0) of the one before", x.settles(0), 300);
        CHECK.due("settles(1) of the one before", x.settles(1), 100);
    }

    private static void wrongInputs() {
        LongTable x = Check.with(Examples.KNOWER);
        LongTable none = new LongTable();
        for (int[] wrong : new int[][] {{-1, 0}, {2, 0}, {7, 0}, {0, 2}, {1, 3}, {0, -1}}) {
            CHECK.dueThrow("turns", () -> x.turns(wrong[0], wrong[1]));
            CHECK.dueThrow("think", () -> x.think(wrong[0], wrong[1], 0));
            CHECK.due("reply", x.reply(wrong[0], wrong[1]), -1);
            CHECK.due("settled", x.settled(wrong[0], wrong[1]), -1);
        }
        CHECK.dueThrow("think(0, 0, 2)", () -> x.think(0, 0, 2));
        CHECK.dueThrow("think(0, 0, -1)", () -> x.think(0, 0, -1));
        CHECK.dueThrow("turns without", () -> none.turns(0, 0));
        CHECK.dueThrow("think without", () -> none.think(0, 0, 0));
        CHECK.due("reply without", none.reply(0, 0), -1);
        CHECK.due("lost() behind that", x.lost(), 10 * 20 * 10);
    }
}
