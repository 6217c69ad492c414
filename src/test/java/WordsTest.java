/** Promises 34 to 36 and 41: believed, minutes, shut, guess. */
public final class WordsTest {
    private static final Check CHECK = new Check();

    public static void main(String[] args) {
        believed();
        partsOfThree();
        believedWrongly();
        minutes();
        shut();
        guess();
        CHECK.end("WordsTest");
    }

    private static void believed() {
        // Both want it right: what is told apart is believed, and so is what says nothing.
        LongTable x = Check.with(Examples.KNOWER);
        CHECK.due("believed(0, 1, 0)", x.believed(0, 1, 0), 1);
        CHECK.due("believed(0, 1, 1)", x.believed(0, 1, 1), 1);
        // x wants it wrong: all apart it would lose less by the other WORD; one WORD has no other.
        String liar = Examples.KNOWER + "loss x a b 0;loss x a a 9;loss x b a 0;loss x b b 9;";
        LongTable y = Check.with(liar);
        CHECK.due("believed(0, 1, 0)", y.believed(0, 1, 0), 1);
        CHECK.due("believed(0, 1, 1)", y.believed(0, 1, 1), 0);
        CHECK.due("believed(1, 0, 4): x knows anyhow", y.believed(1, 0, 4), 1);
        // With own losses all 0 no other WORD loses less.
        CHECK.due("believed(0, 1, 1)", Check.with(Examples.KNOWER
            + "loss x a b 0;loss x b a 0;").believed(0, 1, 1), 1);
        // Of a WORD that is never due nothing is left: a is decided. It is no lie but to one who likes that.
        String never = "truth a 1;truth b 19;voter x sees 2 0 20 0 20;voter y sees 2 20 0 0 20;";
        CHECK.due("believed(0, 1, 1)", Check.with(never).believed(0, 1, 1), 1);
        CHECK.due("believed(0, 1, 1)", Check.with(never + "loss x b b 9;").believed(0, 1, 1), 0);
    }

    private static void partsOfThree() {
        String text = "truth a 10;truth b 10;voter v sees 3 9 9 2 2 2 16;voter w sees 2 10 10 10 10;";
        LongTable x = Check.with(text);
        for (int part = 0; part < 5; part++) {
            CHECK.due("believed(0, 1, " + part + ")", x.believed(0, 1, part), new Oracle(text).believed(0, 1, part) ? 1 : 0);
        }
        CHECK.due("believed(0, 1, 1) of 0 and 1 together", x.believed(0, 1, 1), 1);
        // w sees nothing and decides by the WORD alone: the likeliest TRUTH of those that it stands for.
        String sight = "truth a 6;truth b 6;truth c 8;voter v sees 3 20 0 0 0 20 0 0 0 20;voter w sees 2 10 10 10 10 10 10;";
        int[][] want = {
            {1, 1, 1, 1, 1},
            // Where b is so v would have a decided: it can, where a has a WORD that b has no part in.
            {1, 1, 1, 0, 0},
        };
        String[] losses = {"", "loss v b b 9;loss v b c 9;"};
        for (int i = 0; i < losses.length; i++) {
            LongTable y = Check.with(sight + losses[i]);
            for (int part = 0; part < 5; part++) {
                boolean oracle = new Oracle(sight + losses[i]).believed(0, 1, part);
                CHECK.due("believed(0, 1, " + part + ") by the Oracle", y.believed(0, 1, part), oracle ? 1 : 0);
                CHECK.due("believed(0, 1, " + part + ") with " + losses[i], y.believed(0, 1, part), want[i][part]);
            }
        }
    }

    private static void believedWrongly() {
        LongTable x = Check.with(Examples.KNOWER);
        int[][] wrong = {{0, 1, 2}, {0, 1, -1}, {0, 1, 4}, {1, 0, 5}, {1, 0, -1}, {0, 0, 0}, {1, 1, 0},
            {0, 2, 0}, {2, 0, 0}, {-1, 0, 0}, {0, -1, 0}};
        for (int[] w : wrong) {
            CHECK.due("believed of no such ones", x.believed(w[0], w[1], w[2]), -1);
        }
        CHECK.due("believed without", new LongTable().believed(0, 1, 0), -1);
    }

    private static long minutes(LongTable x, int v, int s, int... votes) {
        Check.tape(x, votes);
        long answer = x.minutes(v, s);
        CHECK.due("the tape behind minutes()", x.count(2), 0);
        return answer;
    }

    private static void minutes() {
        LongTable x = Check.with(Examples.KNOWER + "way y set a none a;");
        // x votes a: a is so. y's SIGNS 0 and 2 are one vote.
        CHECK.due("minutes(1, 0)", minutes(x, 1, 0, 0, 0), 10 * 20 * 5);
        CHECK.due("minutes(1, 2)", minutes(x, 1, 2, 0, 0), 10 * 20 * 10);
        CHECK.due("minutes(1, 1)", minutes(x, 1, 1, 0, 0), 0);
        CHECK.due("minutes(1, 1)", minutes(x, 1, 1, 0, 9), 10 * 20 * 5);
        CHECK.due("minutes(0, 0)", minutes(x, 0, 0, 0, 0), 10 * 20 * 15);
        CHECK.due("minutes(0, 1)", minutes(x, 0, 1, 0, 0), 0);
        CHECK.due("minutes(0, 1)", minutes(x, 0, 1, 1, 0), 10 * 20 * 15);
        CHECK.due("minutes of votes that never are", minutes(x, 0, 0, 0, 1), 0);
        CHECK.due("minutes of votes that never are", minutes(x, 1, 0, 9, 0), 0);
        for (int[] votes : new int[][] {{}, {0}, {0, 0, 0}, {0, 2}, {2, 0}, {0, 8}, {0, 10}, {255, 0}}) {
            Check.tape(x, votes);
            CHECK.dueThrow("minutes not as told", () -> x.minutes(0, 0));
            CHECK.due("the tape stays", x.count(2), votes.length);
        }
        Check.tape(x, 0, 0);
        for (int[] wrong : new int[][] {{-1, 0}, {2, 0}, {0, 2}, {0, -1}, {1, 3}}) {
            CHECK.dueThrow("minutes of no such ones", () -> x.minutes(wrong[0], wrong[1]));
            CHECK.due("the tape stays", x.count(2), 2);
        }
        CHECK.due("minutes behind that", x.minutes(1, 2), 2000);
        LongTable none = new LongTable();
        CHECK.dueThrow("minutes without", () -> none.minutes(0, 0));
    }

    private static void shut() {
        LongTable x = Check.with(Examples.KNOWER + "way y set a none b;");
        // b is decided, if x sees it and y does not vote a.
        CHECK.due("shut(1, 0, 1)", x.shut(1, 0, 1), 10 * 20 * 10);
        CHECK.due("shut(1, 0, 0)", x.shut(1, 0, 0), 0);
        CHECK.due("shut(1, 1, 2)", x.shut(1, 1, 2), 10 * 20 * 5);
        CHECK.due("shut(0, 1, 0)", x.shut(0, 1, 0), 10 * 20 * 5 + 10 * 20 * 10);
        CHECK.due("shut(0, 1, 2)", x.shut(0, 1, 2), 10 * 20 * 10);
        CHECK.due("shut(0, 0, 1)", x.shut(0, 0, 1), 10 * 20 * 10);
        int[][] wrong = {{2, 0, 0}, {-1, 0, 0}, {0, 2, 0}, {0, -1, 0}, {0, 0, 2}, {0, 1, 3}, {0, 0, -1}};
        for (int[] w : wrong) {
            CHECK.dueThrow("shut of no such ones", () -> x.shut(w[0], w[1], w[2]));
        }
        LongTable none = new LongTable();
        CHECK.dueThrow("shut without", () -> none.shut(0, 0, 0));
        CHECK.due("shut(1, 0, 1) behind that", x.shut(1, 0, 1), 2000);
    }

    private static void guess(LongTable x, int want, int... votes) {
        Check.tape(x, votes);
        CHECK.due("guess()", x.guess(), want);
        CHECK.due("the tape behind guess()", x.count(2), 0);
    }

    private static void guess() {
        LongTable x = Check.with(Examples.THREE);
        guess(x, 0, 0, 0, 1);
        guess(x, 1, 0, 1, 1);
        LongTable y = Check.with(Examples.ONE + "way x set a none;");
        // With SIGN 0 50 to 60: votes tell more than they say; LOSSES have no part in it.
        guess(y, 1, 0);
        guess(y, 1, 9);
        guess(y, -1, 1);
        guess(Check.with(Examples.ONE + "loss a b 50;loss x a b 50;"), 1, 0);
        guess(Check.with("truth a 10;truth b 10;voter x sees 2 10 10 10 10;"), 0, 0);
        LongTable z = Check.with(Examples.PLAIN_SIGHT + "way x set none none c;");
        guess(z, 1, 9);
        guess(z, 2, 2);
        guess(z, -1, 0);
        // A vote that stands for a SIGN without a CASE alone.
        guess(Check.with("truth a 1;truth b 19;voter x sees 3 10 10 0 10 10 0;"), -1, 0);
        for (int[] votes : new int[][] {{}, {0, 0}, {3}, {8}, {10}, {255}}) {
            guess(z, -1, votes);
        }
        guess(new LongTable(), -1);
        guess(new LongTable(), -1, 0);
    }
}
