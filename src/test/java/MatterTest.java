/** Promises 6 to 11: count, signs, parts, all, vote, decided. */
public final class MatterTest {
    private static final Check CHECK = new Check();

    public static void main(String[] args) {
        counts();
        parts();
        ways();
        losses();
        rules();
        decidedOutsideWhatIsTold();
        CHECK.end("MatterTest");
    }

    private static void counts() {
        LongTable x = Check.with(Examples.KNOWER);
        CHECK.due("count(0)", x.count(0), 2);
        CHECK.due("count(1)", x.count(1), 2);
        x.feed(0, 0, 0, 0, 0);
        CHECK.due("count(2)", x.count(2), 20);
        CHECK.due("count(3)", x.count(3), -1);
        CHECK.due("count(-1)", x.count(-1), -1);
        CHECK.due("signs(0)", x.signs(0), 2);
        CHECK.due("signs(1)", x.signs(1), 3);
        CHECK.due("signs(2)", x.signs(2), -1);
        CHECK.due("signs(-1)", x.signs(-1), -1);
        CHECK.due("all()", x.all(), 8000);
        StringBuilder seven = new StringBuilder("truth a 1;truth b 19;");
        for (char v = 'm'; v < 't'; v++) {
            seven.append("voter ").append(v).append(" sees 2 10 10 20 0;");
        }
        CHECK.due("all() of seven", Check.with(seven.toString()).all(), 25600000000L);
        CHECK.due("all() without", new LongTable().all(), 0);
    }

    private static void parts() {
        LongTable x = Check.with(Examples.KNOWER);
        Check.tape(x, 0, 2);
        CHECK.dueThrow("parts(-1)", () -> x.parts(-1));
        CHECK.dueThrow("parts(2)", () -> x.parts(2));
        CHECK.due("the tape stays", x.count(2), 2);
        CHECK.due("parts(0)", x.parts(0), 10 * 20 * 10);
        CHECK.due("the tape is empty", x.count(2), 0);
        CHECK.dueThrow("parts(0) of no SIGNS", () -> x.parts(0));
        Check.tape(x, 0, 2);
        CHECK.due("parts(1)", x.parts(1), 0);
        for (int[] wrong : new int[][] {{2, 0}, {0, 3}, {0}, {0, 0, 0}, {255, 0}}) {
            Check.tape(x, wrong);
            CHECK.dueThrow("parts(0) of wrong SIGNS", () -> x.parts(0));
            CHECK.due("wrong SIGNS stay", x.count(2), wrong.length);
        }
        LongTable none = new LongTable();
        CHECK.dueThrow("parts(0) without", () -> none.parts(0));
    }

    private static void votes(String text, int v, int... votes) {
        LongTable x = Check.with(text);
        for (int s = 0; s < votes.length; s++) {
            CHECK.due("vote(" + v + ", " + s + ") of " + text, x.vote(v, s), votes[s]);
        }
        CHECK.due("vote(" + v + ", " + votes.length + ")", x.vote(v, votes.length), -1);
        CHECK.due("vote(" + v + ", -1)", x.vote(v, -1), -1);
        CHECK.due("vote(-1, 0)", x.vote(-1, 0), -1);
        CHECK.due("vote(7, 0)", x.vote(7, 0), -1);
    }

    private static void ways() {
        // PARTS with SIGN 0: 50 and 60, with SIGN 1: 50 and 240.
        votes(Examples.ONE, 0, 1, 1);
        votes(Examples.ONE + "way x plain;", 0, 0, 1);
        votes(Examples.ONE + "way x plain;way x honest;", 0, 1, 1);
        // 60 of 110 are ten twentieths, but not eleven; 240 of 290 sixteen, but not seventeen.
        votes(Examples.ONE + "way x shy 10;", 0, 1, 1);
        votes(Examples.ONE + "way x shy 11;", 0, 9, 1);
        votes(Examples.ONE + "way x shy 16;", 0, 9, 1);
        votes(Examples.ONE + "way x shy 17;", 0, 9, 9);
        votes(Examples.ONE + "way x set none a;", 0, 9, 0);
        votes(Examples.ONE + "way x set a none;way x set b a;", 0, 1, 0);
        // Just k twentieths are enough.
        votes("truth a 10;truth b 10;voter x sees 2 15 5 5 15;way x shy 15;", 0, 0, 1);
        votes("truth a 10;truth b 10;voter x sees 2 15 5 5 15;way x shy 16;", 0, 9, 9);
        // Of like ones the least; with a SIGN without CASES 0, for the shy too.
        votes("truth a 10;truth b 10;voter x sees 3 10 10 0 10 10 0;", 0, 0, 0, 0);
        votes("truth a 1;truth b 19;voter x sees 3 10 10 0 10 10 0;", 0, 1, 1, 0);
        votes("truth a 1;truth b 19;voter x sees 3 10 10 0 10 10 0;way x shy 20;", 0, 9, 9, 0);
        votes("truth a 1;truth b 19;voter x sees 3 10 10 0 10 10 0;way x plain;", 0, 0, 0, 0);
        votes(Examples.PLAIN_SIGHT, 0, 0, 1, 2);
    }

    private static void losses() {
        // With SIGN 0 a loses 60 * 1, b 50 * 9 by COMMON LOSSES.
        votes(Examples.ONE + "loss a b 9;", 0, 0, 0);
        votes(Examples.ONE + "loss a b 9;loss x a b 1;", 0, 1, 1);
        votes(Examples.ONE + "loss x a b 1;loss a b 9;", 0, 1, 1);
        votes(Examples.ONE + "loss a b 9;loss x b a 2;", 0, 0, 1);
        votes(Examples.ONE + "loss a b 9;loss a b 1;", 0, 1, 1);
        votes(Examples.ONE + "loss x a b 9;loss x a b 0;", 0, 1, 1);
        votes(Examples.ONE + "loss b b 4;", 0, 0, 0);
        votes(Examples.ONE + "loss x b b 4;loss x a a 50;", 0, 1, 1);
    }

    private static void decides(String text, int want, int... signs) {
        LongTable x = Check.with(text);
        Check.tape(x, signs);
        CHECK.due("decided() of " + text, x.decided(), want);
        CHECK.due("the tape behind it", x.count(2), 0);
    }

    private static void rules() {
        String three = Examples.THREE;
        decides(three, 0, 0, 0, 1);
        decides(three, 1, 0, 1, 1);
        decides(three + "weight ann 3;", 0, 0, 1, 1);
        decides(three + "weight ann 2;", 0, 0, 1, 1);
        decides(three + "weight ann 2;rule most chair bob;", 1, 0, 1, 1);
        decides(three + "weight ann 2;rule most chair ann;", 0, 0, 1, 1);
        decides(three + "weight ann 2;weight ann 0;", 1, 0, 1, 1);
        decides(three + "way ann set none none;rule most chair cy;", 1, 0, 0, 1);
        decides(three + "way ann set none none;rule most chair ann;", 0, 0, 0, 1);
        decides(three + "rule most chair cy;", 0, 0, 0, 1);
        decides(three + "rule most chair cy;rule most;weight cy 2;", 0, 0, 0, 1);
        decides(three + "rule need 2 no else yes;", 1, 0, 1, 1);
        decides(three + "rule need 3 no else yes;", 0, 0, 1, 1);
        decides(three + "rule need 3 no else yes;weight cy 2;", 1, 0, 1, 1);
        decides(three + "rule need 3 no else no;", 1, 0, 0, 0);
        decides(three + "rule need 3 no else yes;rule most;", 1, 0, 1, 1);
        // All for none: all TRUTHS are alike with 0, and so is that of a chair of WEIGHT 0.
        decides(Examples.ONE + "way x set none none;", 0, 1);
        decides(Examples.ONE + "weight x 0;", 0, 1);
        decides(Examples.ONE + "weight x 0;rule most chair x;", 1, 1);
        // The chair's TRUTH is not among the like ones.
        String four = "truth a 4;truth b 6;truth c 10;";
        for (char v = 'm'; v < 'r'; v++) {
            four += "voter " + v + " sees 3 20 0 0 0 20 0 0 0 20;";
        }
        decides(four + "rule most chair m;", 1, 0, 1, 1, 2, 2);
        decides(four + "rule most chair q;", 2, 0, 1, 1, 2, 2);
        decides(four, 1, 0, 1, 2, 1, 2);
        decides(four, 2, 0, 0, 2, 2, 2);
    }

    private static void decidedOutsideWhatIsTold() {
        for (int[] wrong : new int[][] {{}, {0}, {0, 0, 2}, {0, 0, 0, 0}, {9, 0, 0}}) {
            decides(Examples.THREE, -1, wrong);
        }
        LongTable x = new LongTable();
        CHECK.due("decided() without", x.decided(), -1);
        Check.tape(x, 1);
        CHECK.due("decided() without", x.decided(), -1);
        CHECK.due("the tape behind it", x.count(2), 0);
        CHECK.due("vote(0, 0) without", x.vote(0, 0), -1);
        CHECK.due("signs(0) without", x.signs(0), -1);
    }
}
