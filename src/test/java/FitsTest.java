/** Promises 37, 38, 42 and 43: fits, fitAt, many, run. */
public final class FitsTest {
    private static final Check CHECK = new Check();

    public static void main(String[] args) {
        fits();
        fitStays();
        many();
        run();
        CHECK.end("FitsTest");
    }

    private static void fits(String text, int want, int... votes) {
        LongTable x = Check.with(text);
        CHECK.due("fits() of " + text, x.fits(), want);
        int at = 0;
        for (int v = 0; v < x.count(1); v++) {
            for (int s = 0; s < x.signs(v); s++) {
                CHECK.due("fitAt(" + v + ", " + s + ") of " + text, x.fitAt(v, s), votes[at]);
                at++;
            }
        }
    }

    private static void fits() {
        fits(Examples.ONE, 1, 1, 1);
        // Where a is best none is as good, since the least TRUTH of none is a.
        fits(Examples.ONE + "loss a b 9;", 4, 0, 0);
        fits(Examples.ONE + "loss x a b 4;", 2, 0, 1);
        // Without a WEIGHT any table is FIT: of like ones the first.
        fits(Examples.ONE + "weight x 0;", 9, 0, 0);
        fits(Examples.PLAIN_SIGHT, 2, 0, 1, 2);
        fits(Examples.PLAIN_SIGHT + "rule need 1 a else a;", 64, 0, 0, 0);
        // One wants it wrong: the best FIT one is the one that loses least by the COMMON LOSSES.
        fits("truth a 10;truth b 10;voter x sees 2 20 0 0 20;loss x a a 1;loss x b b 1;loss x a b 0;loss x b a 0;", 2, 1, 0);
        fits("truth a 10;truth b 10;voter x sees 2 20 0 0 20;loss x a b 0;loss x b a 0;", 9, 0, 1);
        CHECK.due("fits() of seven SIGNS", Check.with("truth a 10;truth b 10;voter x sees 2 20 0 0 20;"
            + "voter y sees 2 20 0 0 20;voter z sees 3 20 0 0 0 20 0;").fits(), -1);
        String six = Examples.THREE;
        CHECK.due("fits() of six SIGNS", Check.with(six).fits(), new Oracle(six).fits().size());
        CHECK.due("fits() without", new LongTable().fits(), -1);
    }

    private static void fitStays() {
        LongTable x = new LongTable();
        CHECK.due("fitAt(0, 0) ahead of any", x.fitAt(0, 0), -1);
        Check.matter(x, Examples.ONE + "loss x a b 4;");
        CHECK.due("fitAt(0, 0) ahead of any", x.fitAt(0, 0), -1);
        CHECK.due("fits()", x.fits(), 2);
        Check.matter(x, Examples.THREE + "voter di sees 2 10 10 10 10;");
        CHECK.due("fits() of eight SIGNS", x.fits(), -1);
        CHECK.due("fitAt(0, 1) of the one before", x.fitAt(0, 1), 1);
        CHECK.due("fitAt(0, 0) of the one before", x.fitAt(0, 0), 0);
        for (int[] wrong : new int[][] {{0, 2}, {0, 3}, {1, 0}, {-1, 0}, {0, -1}, {7, 0}, {6, 2}}) {
            CHECK.due("fitAt of none such", x.fitAt(wrong[0], wrong[1]), -1);
        }
        Check.matter(x, Examples.PLAIN_SIGHT);
        x.fits();
        Check.matter(x, Examples.ONE);
        x.fits();
        CHECK.due("fitAt(0, 2) of two SIGNS", x.fitAt(0, 2), -1);
    }

    private static void many() {
        LongTable x = new LongTable();
        CHECK.due("many(1, 0)", x.many(1, 0), 0);
        CHECK.due("many(1, 7)", x.many(1, 7), 7);
        CHECK.due("many(1, 20)", x.many(1, 20), 20);
        CHECK.due("many(3, 15)", x.many(3, 15), 6750);
        CHECK.due("many(5, 12)", x.many(5, 12), 248832 + 5 * 20736 * 8 + 10 * 1728 * 64);
        CHECK.due("many(7, 10)", x.many(7, 10), 640000000L);
        CHECK.due("many(9, 10)", x.many(9, 10), 256000000000L);
        CHECK.due("many(11, 10)", x.many(11, 10), 102400000000000L);
        CHECK.due("many(11, 20)", x.many(11, 20), 204800000000000L);
        CHECK.due("many(11, 0)", x.many(11, 0), 0);
        for (int k = 0; k <= 20; k++) {
            // Right or wrong: the PARTS of both together are all.
            CHECK.due("many(11, k) and the rest", x.many(11, k) + x.many(11, 20 - k), 204800000000000L);
            CHECK.due("many(9, k) and the rest", x.many(9, k) + x.many(9, 20 - k), 512000000000L);
        }
        int[][] wrong = {{0, 5}, {2, 5}, {10, 5}, {12, 5}, {13, 5}, {-1, 5}, {-3, 5}, {3, -1}, {3, 21},
            {Integer.MIN_VALUE, 0}, {Integer.MAX_VALUE, 0}, {1, Integer.MIN_VALUE}};
        for (int[] w : wrong) {
            CHECK.dueThrow("many(" + w[0] + ", " + w[1] + ")", () -> x.many(w[0], w[1]));
        }
    }

    private static void run() {
        // The draws of seed 0: x is 12345, 12345 >>> 8 is 48, the draw 8: b, whose chance ends at 20.
        LongTable x = Check.with("truth a 8;truth b 12;voter x sees 2 20 0 0 20;");
        CHECK.due("run(0, 1)", x.run(0, 1), 1);
        LongTable first = Check.with("truth a 8;truth b 12;voter x sees 2 20 0 0 20;way x set b b;");
        CHECK.due("run(0, 1) of b alone", first.run(0, 1), 1);
        LongTable second = Check.with("truth a 9;truth b 11;voter x sees 2 20 0 0 20;way x set b b;");
        CHECK.due("run(0, 1) of a drawn", second.run(0, 1), 0);
        CHECK.due("run(0, 1000) of one who knows", x.run(0, 1000), 1000);
        CHECK.due("run(-1, 1000) of one who knows", x.run(-1, 1000), 1000);
        for (String text : new String[] {Examples.THREE, Examples.ONE, Examples.KNOWER, Examples.PLAIN_SIGHT + "way x set a a b;"}) {
            for (int seed : new int[] {0, 1, -1, 77, Integer.MIN_VALUE, Integer.MAX_VALUE}) {
                for (int cases : new int[] {1, 2, 3, 999, 1000}) {
                    CHECK.due("run(" + seed + ", " + cases + ")", Check.with(text).run(seed, cases),
                        new Oracle(text).run(seed, cases));
                }
            }
        }
        for (int wrong : new int[] {0, -1, 1001, Integer.MIN_VALUE, Integer.MAX_VALUE}) {
            CHECK.due("run(1, " + wrong + ")", x.run(1, wrong), -1);
        }
        CHECK.due("run without", new LongTable().run(1, 5), -1);
    }
}
