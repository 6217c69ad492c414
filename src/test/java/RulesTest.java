/** Promises 29 to 33, 39 and 40: bestRule, bar, barLost, silent, helps, weighed, weighedAt. */
public final class RulesTest {
    private static final Check CHECK = new Check();

    public static void main(String[] args) {
        bestRule();
        bar();
        silent();
        helps();
        weighed();
        weighedStays();
        CHECK.end("RulesTest");
    }

    private static void bestRule() {
        CHECK.due("bestRule()", Check.with(Examples.THREE + "rule need 3 yes else no;").bestRule(), 25000);
        // x says with set votes what it sees, but the other way round.
        CHECK.due("bestRule()", Check.with(Examples.KNOWER + "way x set b a;").bestRule(), 0);
        CHECK.due("bestRule()", Check.with(Examples.KNOWER + "way x set b b;").bestRule(), 10 * 20 * 5 + 10 * 20 * 10);
        CHECK.due("bestRule()", Check.with(Examples.ONE + "way x set none none;loss a b 9;").bestRule(), 300);
        CHECK.due("bestRule()", Check.with(Examples.ONE + "way x set none b;loss a b 9;loss x a b 0;").bestRule(), 60 + 240);
        LongTable none = new LongTable();
        CHECK.dueThrow("bestRule() without", none::bestRule);
    }

    private static void bar(String text, int t, int u, int k, long lost) {
        LongTable x = Check.with(text);
        CHECK.due("bar(" + t + ", " + u + ") of " + text, x.bar(t, u), k);
        CHECK.due("barLost()", x.barLost(), lost);
    }

    private static void bar() {
        bar(Examples.THREE, 0, 1, 2, 25000);
        bar(Examples.THREE, 1, 0, 2, 25000);
        // With WEIGHTS 9 each a bar above the half is reached by two: from 10 on.
        bar(Examples.THREE + "weight ann 9;weight bob 9;weight cy 9;", 0, 1, 10, 25000);
        bar(Examples.THREE + "weight ann 9;weight bob 9;weight cy 0;", 0, 1, 1, 40000);
        // The votes cannot but mislead: a bar above 3 is never reached.
        bar(Examples.THREE + "way ann set no yes;way bob set no yes;way cy set no yes;", 0, 1, 4, 80000);
        bar("truth a 1;truth b 19;voter x sees 2 10 10 10 10;way x set a none;weight x 9;", 0, 1, 10, 20);
        StringBuilder seven = new StringBuilder("truth a 1;truth b 19;");
        for (char v = 'm'; v < 't'; v++) {
            seven.append("voter ").append(v).append(" sees 2 10 10 10 10;way ").append(v).append(" set a a;");
            seven.append("weight ").append(v).append(" 9;");
        }
        bar(seven.toString(), 0, 1, 64, 1280000000L);
        bar(seven.toString(), 1, 0, 1, 24320000000L);
        // Three TRUTHS: the third is never decided.
        bar(Examples.PLAIN_SIGHT, 0, 1, 1, 10 * 20);
        bar(Examples.PLAIN_SIGHT + "loss c a 7;loss c b 3;loss b a 2;loss a b 2;", 1, 0, 1, 70 * 20);
        LongTable x = new LongTable();
        CHECK.due("barLost() ahead of any", x.barLost(), -1);
        CHECK.due("bar(0, 1) without", x.bar(0, 1), -1);
        CHECK.due("barLost() ahead of any", x.barLost(), -1);
        Check.matter(x, Examples.THREE);
        CHECK.due("barLost() ahead of any", x.barLost(), -1);
        x.bar(0, 1);
        Check.matter(x, Examples.ONE);
        for (int[] wrong : new int[][] {{0, 0}, {1, 1}, {0, 2}, {2, 0}, {-1, 0}, {0, -1}, {2, 2}}) {
            CHECK.due("bar of no such ones", x.bar(wrong[0], wrong[1]), -1);
            CHECK.due("barLost() of the one before", x.barLost(), 25000);
        }
    }

    private static void silent() {
        CHECK.due("silent()", Check.with(Examples.THREE).silent(), -1);
        CHECK.due("silent()", Check.with(Examples.KNOWER + "weight y 3;").silent(), 1);
        CHECK.due("silent()", Check.with(Examples.KNOWER + "way x set b a;").silent(), 0);
        CHECK.due("silent() of one who is not heard", Check.with(
            Examples.KNOWER + "weight y 3;way x set b a;").silent(), -1);
        // Of like ones the least: either of two who see nothing must go, for x to be heard.
        String blind = "truth a 10;truth b 10;voter p sees 2 10 10 10 10;voter q sees 2 10 10 10 10;voter x sees 2 20 0 0 20;";
        CHECK.due("silent()", Check.with(blind + "weight x 2;").silent(), 0);
        CHECK.due("silent() of one too few", Check.with(blind).silent(), -1);
        CHECK.due("silent()", Check.with(blind + "way p set none none;").silent(), 1);
        CHECK.due("silent() of none who votes", Check.with(blind + "way p set none none;way q set none none;").silent(), -1);
        CHECK.due("silent() without", new LongTable().silent(), -1);
    }

    private static void helps() {
        // Of two alone the one who says 'yes' is heard: a second one is no better than the first alone.
        LongTable x = Check.with(Examples.THREE);
        CHECK.due("helps(0, 1)", x.helps(0, 1), 1);
        CHECK.due("helps(2, 0)", x.helps(2, 0), 1);
        LongTable y = Check.with(Examples.KNOWER);
        // x helps with y and without: not beside y only. y does harm beside x.
        CHECK.due("helps(0, 1)", y.helps(0, 1), 0);
        CHECK.due("helps(1, 0)", y.helps(1, 0), 0);
        // Both must say b, for b to be decided.
        LongTable z = Check.with(Examples.KNOWER + "rule need 2 b else a;");
        CHECK.due("helps(0, 1)", z.helps(0, 1), 1);
        CHECK.due("helps(1, 0)", z.helps(1, 0), 1);
        LongTable none = new LongTable();
        CHECK.due("helps without", none.helps(0, 1), -1);
        for (int[] wrong : new int[][] {{0, 0}, {1, 1}, {0, 2}, {2, 0}, {-1, 0}, {0, -1}, {2, 2}}) {
            CHECK.due("helps of no such ones", y.helps(wrong[0], wrong[1]), -1);
        }
    }

    private static void weighed(String text, long lost, int... at) {
        LongTable x = Check.with(text);
        CHECK.due("weighed() of " + text, x.weighed(), lost);
        for (int i = 0; i < at.length; i++) {
            CHECK.due("weighedAt(" + i + ") of " + text, x.weighedAt(i), at[i]);
        }
    }

    private static void weighed() {
        weighed(Examples.THREE, 25000, 1, 1, 1, -1, -1, 2, 0, 1);
        weighed(Examples.ONE + "loss a b 9;", 300, 0, -1, -1, -1, -1, 1, 1, 0);
        // The first WEIGHTS that let x alone decide: y's of 0, though y's voice could be drowned.
        weighed(Examples.KNOWER, 0, 1, 0, -1, -1, -1, 1, 0, 1);
        weighed(Examples.KNOWER + "weight x 0;weight y 9;rule need 81 b else b;", 0, 1, 0, -1, -1, -1, 1, 0, 1);
        weighed(Examples.KNOWER + "way x set b a;", 10 * 20 * 5 + 10 * 20 * 10, 0, 1, -1, -1, -1, 1, 0, 1);
        String five = "truth a 10;truth b 10;";
        for (char v = 'm'; v < 'r'; v++) {
            five += "voter " + v + " sees 2 15 5 5 15;";
        }
        LongTable x = Check.with(five);
        CHECK.due("weighed() of five", x.weighed(), x.lost());
        int[] want = {1, 1, 1, 1, 1, 3, 0, 1, -1};
        for (int i = 0; i < want.length; i++) {
            CHECK.due("weighedAt(" + i + ") of five", x.weighedAt(i), want[i]);
        }
        CHECK.due("weighed() of six", Check.with(five + "voter r sees 2 15 5 5 15;").weighed(), -1);
    }

    private static void weighedStays() {
        LongTable x = new LongTable();
        CHECK.due("weighed() without", x.weighed(), -1);
        for (int i = -1; i < 9; i++) {
            CHECK.due("weighedAt ahead of any", x.weighedAt(i), -1);
        }
        Check.matter(x, Examples.THREE);
        x.weighed();
        String six = "truth a 10;truth b 10;";
        for (char v = 'm'; v < 's'; v++) {
            six += "voter " + v + " sees 2 15 5 5 15;";
        }
        Check.matter(x, six);
        CHECK.due("weighed() of six", x.weighed(), -1);
        int[] want = {1, 1, 1, -1, -1, 2, 0, 1};
        for (int i = 0; i < want.length; i++) {
            CHECK.due("weighedAt of the one before", x.weighedAt(i), want[i]);
        }
        CHECK.due("weighedAt(8)", x.weighedAt(8), -1);
        CHECK.due("weighedAt(-1)", x.weighedAt(-1), -1);
        CHECK.due("weighedAt(MAX)", x.weighedAt(Integer.MAX_VALUE), -1);
        Check.matter(x, Examples.ONE);
        x.weighed();
        CHECK.due("weighedAt(1) of one", x.weighedAt(1), -1);
    }
}
