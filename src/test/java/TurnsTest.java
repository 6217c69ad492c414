/** Promises 24 to 28: inTurns, herd, says, cliff, bestOrder. */
public final class TurnsTest {
    private static final Check CHECK = new Check();

    public static void main(String[] args) {
        three();
        sightAndBlindness();
        withoutCases();
        ownLosses();
        staysWithItsMatter();
        notAsTold();
        seven();
        bestOrder();
        CHECK.end("TurnsTest");
    }

    private static long inTurns(LongTable x, int... order) {
        Check.tape(x, order);
        long answer = x.inTurns();
        CHECK.due("the tape behind inTurns()", x.count(2), 0);
        return answer;
    }

    private static void say(LongTable x, int says, int cliff, int... signs) {
        Check.tape(x, signs);
        CHECK.due("says()", x.says(), says);
        CHECK.due("the tape behind says()", x.count(2), 0);
        Check.tape(x, signs);
        CHECK.due("cliff()", x.cliff(), cliff);
        CHECK.due("the tape behind cliff()", x.count(2), 0);
    }

    private static void three() {
        LongTable x = Check.with(Examples.THREE);
        // A 'yes' at first is followed by all; behind a 'no' bob's SIGN counts, like ones being 'yes'.
        CHECK.due("inTurns()", inTurns(x, 0, 1, 2), 32500);
        CHECK.due("herd(0)", x.herd(0), (10 * 15 + 10 * 5) * 400);
        CHECK.due("herd(1)", x.herd(1), 10 * 5 * 400);
        CHECK.due("herd(2)", x.herd(2), 160000 - 32500);
        say(x, 0, 1, 0, 1, 1);
        say(x, 101, -1, 1, 0, 1);
        say(x, 100, -1, 1, 0, 0);
        say(x, 111, 2, 1, 1, 0);
        CHECK.due("herd(3)", x.herd(3), -1);
        CHECK.due("herd(-1)", x.herd(-1), -1);
    }

    private static void sightAndBlindness() {
        LongTable x = Check.with(Examples.KNOWER + "loss b a 3;");
        // Behind x, who knows, y FOLLOWS: a CLIFF at the last turn is no HERD.
        CHECK.due("inTurns()", inTurns(x, 0, 1), 0);
        CHECK.due("herd(0)", x.herd(0), 0);
        CHECK.due("herd(2)", x.herd(2), 8000);
        say(x, 0, 1, 0, 2);
        say(x, 11, 1, 1, 2);
        // y, who by b's cost always says b, FOLLOWS nobody's word, but x does not.
        LongTable y = Check.with(Examples.KNOWER + "loss b a 9;");
        CHECK.due("inTurns()", inTurns(y, 1, 0), 0);
        CHECK.due("herd(0)", y.herd(0), 0);
        say(y, 10, -1, 0, 2);
        // One who sees nothing FOLLOWS from the first turn on.
        LongTable z = Check.with("truth a 3;truth b 17;voter x sees 2 10 10 10 10;voter y sees 2 10 10 10 10;");
        CHECK.due("inTurns()", inTurns(z, 0, 1), 3 * 400);
        CHECK.due("herd(0)", z.herd(0), 8000);
        CHECK.due("herd(1)", z.herd(1), 1200);
        CHECK.due("herd(2)", z.herd(2), 6800);
        say(z, 11, 0, 0, 1);
    }

    private static void withoutCases() {
        // A SIGN without a CASE says 0, and has no part in whether one FOLLOWS.
        LongTable x = Check.with("truth a 1;truth b 19;voter x sees 3 10 10 0 10 10 0;voter y sees 2 10 10 10 10;");
        CHECK.due("inTurns()", inTurns(x, 0, 1), 400);
        CHECK.due("herd(0)", x.herd(0), 8000);
        say(x, 11, 0, 0, 0);
        // Behind it no CASE is left: 0 again, whatever the SIGN.
        say(x, 0, 0, 2, 1);
        // x knows a, but y's SIGN is never seen under a: says 0, and y FOLLOWS still.
        LongTable y = Check.with("truth b 10;truth a 10;voter x sees 2 20 0 0 20;voter y sees 2 20 0 0 20;");
        CHECK.due("inTurns()", inTurns(y, 0, 1), 0);
        say(y, 11, 1, 1, 1);
        say(y, 10, 1, 1, 0);
    }

    private static void ownLosses() {
        // x says by own LOSSES, what is LOST is told by the COMMON ones.
        LongTable x = Check.with(Examples.ONE + "loss x a b 9;loss a b 2;");
        CHECK.due("inTurns()", inTurns(x, 0), 60 + 240);
        CHECK.due("herd(2)", x.herd(2), 100);
        say(x, 0, 0, 1);
        LongTable y = Check.with(Examples.ONE + "loss x a b 4;");
        CHECK.due("inTurns()", inTurns(y, 0), 60 + 50);
        CHECK.due("herd(0) of one", y.herd(0), 0);
        say(y, 0, -1, 0);
        say(y, 1, -1, 1);
        // Ways, WEIGHTS and the rule have no part in it.
        LongTable z = Check.with(Examples.ONE + "loss x a b 4;way x set b a;weight x 0;rule need 1 a else a;");
        CHECK.due("inTurns()", inTurns(z, 0), 110);
    }

    private static void staysWithItsMatter() {
        LongTable x = Check.with(Examples.KNOWER);
        CHECK.due("inTurns()", inTurns(x, 1, 0), 0);
        for (int i = 0; i < 4; i++) {
            Check.matter(x, i % 2 == 0 ? Examples.THREE : Examples.ONE);
            long lost = x.lost();
            Check.matter(x, "truth a 19;truth b 1;voter q sees 2 0 20 20 0;weight q 10;");
            CHECK.due("lost() behind a FAULT", x.lost(), lost);
            CHECK.due("count(1) behind a FAULT", x.count(1), i % 2 == 0 ? 3 : 1);
            say(x, 10, -1, 0, 0);
            say(x, 1, -1, 1, 2);
            Check.tape(x, 0, 0, 0);
            CHECK.due("says() of another MATTER's SIGNS", x.says(), -1);
            CHECK.due("herd(2)", x.herd(2), 8000);
            x.bestOrder();
            CHECK.due("herd(2) behind bestOrder()", x.herd(2), 8000);
        }
        Check.matter(x, Examples.THREE);
        CHECK.due("inTurns()", inTurns(x, 2, 1, 0), 32500);
        say(x, 100, -1, 0, 0, 1);
        Check.matter(x, Examples.ONE);
        say(x, 100, -1, 0, 0, 1);
    }

    private static void notAsTold() {
        LongTable x = new LongTable();
        CHECK.due("inTurns() without", inTurns(x), -1);
        CHECK.due("inTurns() without", inTurns(x, 0), -1);
        CHECK.due("herd(0) ahead of any", x.herd(0), -1);
        CHECK.due("herd(2) ahead of any", x.herd(2), -1);
        say(x, -1, -1);
        say(x, -1, -1, 0);
        CHECK.due("bestOrder() without", x.bestOrder(), -1);
        Check.matter(x, Examples.THREE);
        say(x, -1, -1, 0, 0, 0);
        CHECK.due("herd(0) ahead of any", x.herd(0), -1);
        CHECK.due("inTurns()", inTurns(x, 0, 1, 2), 32500);
        int[][] wrong = {{}, {0, 1}, {0, 1, 1}, {0, 1, 3}, {0, 1, 2, 0}, {0, 1, 255}, {32, 1, 2}};
        for (int[] order : wrong) {
            CHECK.due("inTurns() not as told", inTurns(x, order), -1);
        }
        CHECK.due("herd(2) of the one before", x.herd(2), 127500);
        for (int[] signs : new int[][] {{}, {0, 1}, {0, 1, 2}, {0, 1, 0, 1}, {255, 0, 0}}) {
            say(x, -1, -1, signs);
        }
        say(x, 111, 2, 1, 1, 0);
    }

    private static void seven() {
        // Two 'yes' more than 'no', or one at first: from then on all FOLLOW.
        StringBuilder text = new StringBuilder("truth yes 10;truth no 10;");
        for (char v = 'm'; v < 't'; v++) {
            text.append("voter ").append(v).append(" sees 2 15 5 5 15;");
        }
        LongTable x = Check.with(text.toString());
        Oracle.Talk talk = new Oracle(text.toString()).new Talk(new int[] {6, 5, 4, 3, 2, 1, 0});
        CHECK.due("inTurns()", inTurns(x, 6, 5, 4, 3, 2, 1, 0), x.all() - x.herd(2));
        CHECK.due("herd(0)", x.herd(0), talk.herd(false));
        CHECK.due("herd(1)", x.herd(1), talk.herd(true));
        say(x, 0, 1, 1, 1, 1, 1, 1, 1, 0);
        say(x, 1111111, 2, 0, 0, 0, 0, 0, 1, 1);
        say(x, 1000000, 3, 1, 1, 1, 1, 0, 0, 1);
        say(x, 1010101, -1, 1, 0, 1, 0, 1, 0, 1);
    }

    private static void bestOrder() {
        CHECK.due("bestOrder() of like ones", Check.with(Examples.THREE).bestOrder(), 12);
        CHECK.due("bestOrder() of one", Check.with(Examples.ONE).bestOrder(), 0);
        // x sees it, but would have it decided wrongly, if it came last.
        LongTable x = Check.with(Examples.KNOWER + "loss x a b 0;loss x a a 9;loss x b a 0;loss x b b 9;");
        CHECK.due("bestOrder()", x.bestOrder(), 1);
        LongTable y = Check.with("truth a 10;truth b 10;voter y sees 2 15 5 5 15;voter x sees 2 20 0 0 20;"
            + "loss y a b 0;loss y a a 9;loss y b a 0;loss y b b 9;");
        CHECK.due("bestOrder()", y.bestOrder(), 1);
        LongTable w = Check.with("truth a 10;truth b 10;voter y sees 2 15 5 5 15;voter x sees 2 20 0 0 20;"
            + "loss x a b 0;loss x a a 9;loss x b a 0;loss x b b 9;");
        CHECK.due("bestOrder()", w.bestOrder(), 10);
        String five = "truth a 10;truth b 10;";
        for (char v = 'm'; v < 'r'; v++) {
            five += "voter " + v + " sees 2 15 5 5 15;";
        }
        // The last one, if not the least of all, decides by what two others say and the own SIGN.
        CHECK.due("bestOrder() of five", Check.with(five).bestOrder(), new Oracle(five).bestOrder());
        CHECK.due("bestOrder() of six", Check.with(five + "voter r sees 2 15 5 5 15;").bestOrder(), -1);
    }
}
