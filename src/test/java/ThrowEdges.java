/** Edges of the calls that throw: none of them changes anything. */
final class ThrowEdges {
    private static final String CHANGES_NOTHING = "A call that throws changes nothing.";
    private static final int MIN = Integer.MIN_VALUE;
    private static final int MAX = Integer.MAX_VALUE;

    private ThrowEdges() {
    }

    static void all(Edges e) {
        calls(e, 8, "parts", new int[][] {{-1}, {2}, {MIN}, {MAX}}, (x, w) -> x.parts(w[0]));
        calls(e, 13, "comes", new int[][] {{-1, 0}, {0, 2}, {MIN, MAX}}, (x, w) -> x.comes(w[0], w[1]));
        calls(e, 16, "knows", new int[][] {{-1}, {2}, {MIN}, {MAX}}, (x, w) -> x.knows(w[0]));
        calls(e, 17, "turns", new int[][] {{-1, 0}, {3, 0}, {0, 2}, {MAX, MIN}}, (x, w) -> x.turns(w[0], w[1]));
        calls(e, 18, "think", new int[][] {{-1, 0, 0}, {0, 2, 0}, {0, 0, 2}, {0, 0, -1}},
            (x, w) -> x.think(w[0], w[1], w[2]));
        calls(e, 35, "minutes", new int[][] {{-1, 0}, {3, 0}, {0, 2}, {0, MIN}}, (x, w) -> x.minutes(w[0], w[1]));
        calls(e, 36, "shut", new int[][] {{2, 0, 0}, {0, 3, 0}, {0, 0, 2}, {MIN, 0, 0}}, (x, w) -> x.shut(w[0], w[1], w[2]));
        calls(e, 42, "many", new int[][] {{2, 5}, {13, 5}, {3, 21}, {3, -1}}, (x, w) -> x.many(w[0], w[1]));
        rowNotAsTold(e);
        withoutMatter(e);
    }

    private interface Call {
        long of(LongTable x, int[] w);
    }

    /** All that was told and asked so far has left something, and the tape holds SIGNS that are votes, too. */
    private static LongTable full() {
        LongTable x = Check.with(Examples.PLAIN_SIGHT);
        x.fits();
        Check.tell(x, Examples.ONE + "way x set a a;");
        x.settle();
        x.weighed();
        Check.tell(x, Examples.THREE);
        Check.tape(x, 2, 1, 0);
        x.inTurns();
        x.bar(0, 1);
        Check.matter(x, Examples.THREE + "weight ann 10;");
        Check.tape(x, 1, 0, 1);
        return x;
    }

    private static long[] seen(LongTable x) {
        long[] seen = new long[80];
        int at = 0;
        for (int what = 0; what < 3; what++) {
            seen[at++] = x.count(what);
            seen[at++] = x.herd(what);
            seen[at++] = x.settles(what);
            seen[at++] = x.signs(what);
        }
        seen[at++] = x.fault();
        seen[at++] = x.barLost();
        seen[at++] = x.lost();
        for (int i = 0; i < 8; i++) {
            seen[at++] = x.weighedAt(i);
        }
        for (int v = 0; v < 3; v++) {
            for (int s = 0; s < 3; s++) {
                seen[at++] = x.settled(v, s);
                seen[at++] = x.fitAt(v, s);
                seen[at++] = x.vote(v, s);
            }
        }
        return seen;
    }

    private static void sameStill(Edges e, LongTable x, long[] before) {
        long[] now = seen(x);
        for (int i = 0; i < now.length; i++) {
            e.due("what is seen, number " + i, now[i], before[i]);
        }
        // The bytes of the tape, and the order of the latest inTurns().
        e.due("says()", x.says(), 101);
        Check.tape(x, 1, 0, 1);
        e.due("cliff()", x.cliff(), -1);
    }

    private static void calls(Edges e, int promise, String call, int[][] wrong, Call made) {
        e.says(promise, CHANGES_NOTHING);
        for (int[] w : wrong) {
            e.edge(call + java.util.Arrays.toString(w), () -> {
                LongTable x = full();
                long[] before = seen(x);
                e.dueThrow(call, () -> made.of(x, w));
                e.dueThrow(call + " again", () -> made.of(x, w));
                sameStill(e, x, before);
            });
        }
    }

    private static void rowNotAsTold(Edges e) {
        int[][] rows = {{}, {1}, {1, 0}, {1, 0, 3}, {1, 0, 1, 0}, {255, 0, 1}};
        for (int[] row : rows) {
            e.says(8, CHANGES_NOTHING);
            e.edge("parts(0) with " + java.util.Arrays.toString(row), () -> rowStays(e, row, (x, w) -> x.parts(0)));
            e.says(35, CHANGES_NOTHING);
            e.edge("minutes(0, 0) with " + java.util.Arrays.toString(row), () -> rowStays(e, row, (x, w) -> x.minutes(0, 0)));
        }
    }

    private static void rowStays(Edges e, int[] row, Call made) {
        LongTable x = full();
        Check.tape(x, row);
        long[] before = seen(x);
        e.dueThrow("the call", () -> made.of(x, row));
        long[] now = seen(x);
        for (int i = 0; i < now.length; i++) {
            e.due("what is seen, number " + i, now[i], before[i]);
        }
        e.due("inTurns() of what stayed", x.inTurns(), -1);
        e.due("count(2)", x.count(2), 0);
    }

    private static void withoutMatter(Edges e) {
        int[] promises = {8, 13, 16, 17, 18, 29, 35, 36};
        String[] names = {"parts", "comes", "knows", "turns", "think", "bestRule", "minutes", "shut"};
        Call[] calls = {(x, w) -> x.parts(0), (x, w) -> x.comes(0, 0), (x, w) -> x.knows(0), (x, w) -> x.turns(0, 0),
            (x, w) -> x.think(0, 0, 0), (x, w) -> x.bestRule(), (x, w) -> x.minutes(0, 0), (x, w) -> x.shut(0, 0, 0)};
        for (int i = 0; i < calls.length; i++) {
            Call made = calls[i];
            String name = names[i];
            e.says(promises[i], CHANGES_NOTHING);
            e.edge(name + "() without a MATTER", () -> {
                LongTable x = new LongTable();
                Check.matter(x, "truth a 0;");
                Check.tape(x, Examples.ONE);
                long[] before = seen(x);
                e.dueThrow(name, () -> made.of(x, null));
                long[] now = seen(x);
                for (int j = 0; j < now.length; j++) {
                    e.due("what is seen, number " + j, now[j], before[j]);
                }
                e.due("matter() of what stayed", x.matter(), 3);
            });
        }
    }
}
