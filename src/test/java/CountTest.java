/** Promises 12 to 16: right, comes, lost, known, knows. */
public final class CountTest {
    private static final Check CHECK = new Check();

    public static void main(String[] args) {
        three();
        lossesCount();
        threeTruths();
        known();
        without();
        CHECK.end("CountTest");
    }

    private static void three() {
        LongTable x = Check.with(Examples.THREE);
        // Of 8000 each is right in 15^3 + 3 * 15^2 * 5 = 6750, under either TRUTH.
        CHECK.due("right()", x.right(), 2 * 10 * 6750);
        CHECK.due("lost()", x.lost(), 2 * 10 * 1250);
        CHECK.due("comes(0, 0)", x.comes(0, 0), 67500);
        CHECK.due("comes(0, 1)", x.comes(0, 1), 12500);
        CHECK.due("comes(1, 0)", x.comes(1, 0), 12500);
        CHECK.due("comes(1, 1)", x.comes(1, 1), 67500);
        for (int[] wrong : new int[][] {{2, 0}, {0, 2}, {-1, 0}, {0, -1}}) {
            CHECK.dueThrow("comes of no such ones", () -> x.comes(wrong[0], wrong[1]));
        }
        CHECK.due("right() behind that", x.right(), 135000);
    }

    private static void lossesCount() {
        // x decides b with both SIGNS: 100 of 400 go wrong.
        LongTable x = Check.with(Examples.ONE + "loss a b 7;loss x a b 1;loss b b 2;loss x b b 0;");
        CHECK.due("right()", x.right(), 300);
        CHECK.due("lost()", x.lost(), 100 * 7 + 300 * 2);
        // With SIGN 0: a loses 60, b 350 + 120; with SIGN 1: a 240, b 350 + 480.
        CHECK.due("knows(0)", x.knows(0), 60 + 240);
        CHECK.due("knows(1)", x.knows(1), 100);
    }

    private static void threeTruths() {
        LongTable x = Check.with(Examples.PLAIN_SIGHT + "way x set a c c;loss b c 5;loss c a 9;");
        CHECK.due("right()", x.right(), (4 + 10) * 20);
        CHECK.due("comes(1, 2)", x.comes(1, 2), 6 * 20);
        CHECK.due("comes(2, 2)", x.comes(2, 2), 10 * 20);
        CHECK.due("comes(2, 0)", x.comes(2, 0), 0);
        CHECK.due("lost()", x.lost(), 6 * 20 * 5);
        CHECK.due("knows(0)", x.knows(0), 0);
        CHECK.due("knows(1)", x.knows(1), 400);
    }

    private static void known() {
        LongTable x = Check.with(Examples.KNOWER + "loss a b 3;");
        int[][] rows = {{0, 0, 0}, {1, 0, 1}, {1, 2, 1}, {0, 2, 0}};
        for (int[] row : rows) {
            Check.tape(x, row[0], row[1]);
            CHECK.due("known()", x.known(), row[2]);
            CHECK.due("the tape behind known()", x.count(2), 0);
        }
        for (int[] wrong : new int[][] {{}, {0}, {0, 3}, {2, 0}, {0, 0, 0}}) {
            Check.tape(x, wrong);
            CHECK.due("known() not as told", x.known(), -1);
            CHECK.due("the tape behind it", x.count(2), 0);
        }
        // COMMON LOSSES count, not one's own: with SIGN 0 a loses 60, b 450.
        LongTable y = Check.with(Examples.ONE + "loss a b 9;loss x a b 1;");
        Check.tape(y, 0);
        CHECK.due("known() by COMMON LOSSES", y.known(), 0);
        // Of like ones, and where there is no CASE, the least.
        LongTable z = Check.with("truth a 10;truth b 10;voter x sees 3 10 10 0 10 10 0;");
        Check.tape(z, 1);
        CHECK.due("known() of like ones", z.known(), 0);
        Check.tape(z, 2);
        CHECK.due("known() without a CASE", z.known(), 0);
    }

    private static void without() {
        LongTable x = new LongTable();
        CHECK.due("right() without", x.right(), 0);
        CHECK.due("lost() without", x.lost(), 0);
        CHECK.due("known() without", x.known(), -1);
        CHECK.dueThrow("comes(0, 0) without", () -> x.comes(0, 0));
        CHECK.dueThrow("knows(0) without", () -> x.knows(0));
        LongTable y = Check.with(Examples.ONE);
        CHECK.dueThrow("knows(2)", () -> y.knows(2));
        CHECK.dueThrow("knows(-1)", () -> y.knows(-1));
    }
}
