import java.util.List;

/** All calls on many MATTERS against the Oracle, which counts CASE by CASE. */
public final class OracleTest {
    private static final Check CHECK = new Check();

    public static void main(String[] args) {
        for (int seed = 1; seed <= 400; seed++) {
            Texts texts = new Texts(seed);
            compare(texts, texts.matter(2 + texts.draw(2), 1 + texts.draw(3), 3), true);
        }
        for (int seed = 1001; seed <= 1060; seed++) {
            Texts texts = new Texts(seed);
            compare(texts, texts.matter(2 + texts.draw(2), 4, 3), seed % 4 == 0);
        }
        for (int seed = 2001; seed <= 2006; seed++) {
            Texts texts = new Texts(seed);
            compare(texts, texts.matter(2, 5, 2), seed == 2001);
        }
        for (int seed = 3001; seed <= 3006; seed++) {
            Texts texts = new Texts(seed);
            compare(texts, texts.matter(2 + seed % 2, 6 + seed % 2, 2), false);
        }
        CHECK.end("OracleTest");
    }

    private static void compare(Texts texts, String text, boolean weighing) {
        Oracle o = new Oracle(text);
        LongTable x = new LongTable();
        due(text, "matter()", Check.matter(x, text), o.lines);
        due(text, "count(0)", x.count(0), o.nt());
        due(text, "count(1)", x.count(1), o.n());
        compareCounts(text, o, x);
        compareSigns(text, o, x);
        compareCases(texts, text, o, x);
        compareSettled(text, o, x);
        compareTurns(texts, text, o, x);
        compareRules(text, o, x);
        comparePairs(text, o, x);
        compareMinutes(texts, text, o, x);
        compareFits(text, o, x);
        if (weighing) {
            compareWeighed(text, o, x);
        }
        int seed = texts.draw(1 << 30) * 3;
        due(text, "run(" + seed + ", 200)", x.run(seed, 200), o.run(seed, 200));
    }

    private static void due(String text, String call, long got, long want) {
        CHECK.due(got == want ? call : text + "\n  " + call, got, want);
    }

    private static void compareCounts(String text, Oracle o, LongTable x) {
        long[][] comes = o.comes(o.votes());
        due(text, "right()", x.right(), o.right(comes));
        due(text, "lost()", x.lost(), o.lost(comes));
        for (int t = 0; t < o.nt(); t++) {
            for (int d = 0; d < o.nt(); d++) {
                due(text, "comes(" + t + ", " + d + ")", x.comes(t, d), comes[t][d]);
            }
        }
        due(text, "knows(0)", x.knows(0), o.lost(o.known()));
        due(text, "knows(1)", x.knows(1), o.right(o.known()));
        due(text, "bestRule()", x.bestRule(), o.lost(o.bestRule()));
        due(text, "fit()", x.fit(), o.isFit(o.votes()) ? 1 : 0);
    }

    private static void compareSigns(String text, Oracle o, LongTable x) {
        int[][] votes = o.votes();
        for (int v = 0; v < o.n(); v++) {
            due(text, "signs(" + v + ")", x.signs(v), o.signs(v));
            for (int s = 0; s < o.signs(v); s++) {
                String at = "(" + v + ", " + s + ")";
                due(text, "vote" + at, x.vote(v, s), votes[v][s]);
                due(text, "reply" + at, x.reply(v, s), o.reply(votes, v, s));
                long[] turned = o.turned(v, s);
                long sum = 0;
                for (int t = 0; t < o.nt(); t++) {
                    sum += turned[t];
                    due(text, "think" + at + t, x.think(v, s, t), turned[t]);
                    due(text, "shut" + t + at, x.shut(t, v, s), o.shut(t, v, s));
                }
                due(text, "turns" + at, x.turns(v, s), sum);
            }
        }
    }

    private static int[] drawCase(Texts texts, Oracle o) {
        return o.cases.get(texts.draw(o.cases.size()));
    }

    private static int[] signsOf(int[] c) {
        return java.util.Arrays.copyOfRange(c, 1, c.length);
    }

    private static void compareCases(Texts texts, String text, Oracle o, LongTable x) {
        int[][] votes = o.votes();
        for (int i = 0; i < 6; i++) {
            int[] c = drawCase(texts, o);
            int[] signs = signsOf(c);
            Check.tape(x, signs);
            due(text, "decided()", x.decided(), o.decide(o.row(c, votes)));
            Check.tape(x, signs);
            due(text, "known()", x.known(), o.knownBy(signs));
            Check.tape(x, signs);
            due(text, "parts(" + c[0] + ")", x.parts(c[0]), o.parts(c));
        }
    }

    private static void compareSettled(String text, Oracle o, LongTable x) {
        int[][] votes = o.votes();
        int rounds = o.settle(votes);
        due(text, "settle()", x.settle(), rounds);
        long[][] comes = o.comes(votes);
        due(text, "settles(0)", x.settles(0), rounds == -1 ? -1 : o.right(comes));
        due(text, "settles(1)", x.settles(1), rounds == -1 ? -1 : o.lost(comes));
        for (int v = 0; v < 8; v++) {
            for (int s = 0; s < 4; s++) {
                boolean is = rounds != -1 && v < o.n() && s < o.signs(v);
                due(text, "settled(" + v + ", " + s + ")", x.settled(v, s), is ? votes[v][s] : -1);
            }
        }
    }

    private static int[] drawOrder(Texts texts, int n) {
        int[] order = new int[n];
        for (int i = 0; i < n; i++) {
            int j = texts.draw(i + 1);
            order[i] = order[j];
            order[j] = i;
        }
        return order;
    }

    private static void compareTurns(Texts texts, String text, Oracle o, LongTable x) {
        for (int i = 0; i < 2; i++) {
            int[] order = drawOrder(texts, o.n());
            Oracle.Talk talk = o.new Talk(order);
            Check.tape(x, order);
            due(text, "inTurns()", x.inTurns(), o.lost(talk.comes()));
            if (i == 0 && o.n() <= 5) {
                due(text, "bestOrder()", x.bestOrder(), o.bestOrder());
            }
            due(text, "herd(0)", x.herd(0), talk.herd(false));
            due(text, "herd(1)", x.herd(1), talk.herd(true));
            due(text, "herd(2)", x.herd(2), o.right(talk.comes()));
            for (int j = 0; j < 6; j++) {
                int at = texts.draw(o.cases.size());
                Check.tape(x, signsOf(o.cases.get(at)));
                due(text, "says()", x.says(), Integer.parseInt(talk.said.get(at)));
                Check.tape(x, signsOf(o.cases.get(at)));
                due(text, "cliff()", x.cliff(), talk.cliffs.get(at));
            }
        }
    }

    private static void compareRules(String text, Oracle o, LongTable x) {
        for (int t = 0; t < o.nt(); t++) {
            for (int u = 0; u < o.nt(); u++) {
                if (t != u) {
                    long[] bar = o.bar(t, u);
                    due(text, "bar(" + t + ", " + u + ")", x.bar(t, u), bar[0]);
                    due(text, "barLost()", x.barLost(), bar[1]);
                }
            }
        }
        due(text, "silent()", x.silent(), o.silent());
    }

    private static void comparePairs(String text, Oracle o, LongTable x) {
        for (int v = 0; v < o.n(); v++) {
            for (int w = 0; w < o.n(); w++) {
                if (v != w) {
                    due(text, "helps(" + v + ", " + w + ")", x.helps(v, w), o.helps(v, w) ? 1 : 0);
                    for (int part = 0; part < (o.signs(v) == 2 ? 2 : 5); part++) {
                        String call = "believed(" + v + ", " + w + ", " + part + ")";
                        due(text, call, x.believed(v, w, part), o.believed(v, w, part) ? 1 : 0);
                    }
                }
            }
        }
    }

    private static void compareMinutes(Texts texts, String text, Oracle o, LongTable x) {
        for (int i = 0; i < 6; i++) {
            int[] told = o.row(drawCase(texts, o), o.votes());
            if (i == 5) {
                told[texts.draw(o.n())] = Oracle.NO_VOTE;
            }
            Check.tape(x, told);
            due(text, "guess()", x.guess(), o.guess(told));
            int v = texts.draw(o.n());
            int s = texts.draw(o.signs(v));
            long sum = 0;
            for (long parts : o.minutes(told, v, s)) {
                sum += parts;
            }
            Check.tape(x, told);
            due(text, "minutes(" + v + ", " + s + ")", x.minutes(v, s), sum);
        }
    }

    private static void compareFits(String text, Oracle o, LongTable x) {
        int signs = 0;
        for (int v = 0; v < o.n(); v++) {
            signs += o.signs(v);
        }
        if (signs > 6) {
            due(text, "fits()", x.fits(), -1);
            return;
        }
        List<int[][]> fits = o.fits();
        due(text, "fits()", x.fits(), fits.size());
        for (int v = 0; v < o.n(); v++) {
            for (int s = 0; s < o.signs(v); s++) {
                long want = fits.isEmpty() ? -1 : o.bestFit(fits)[v][s];
                due(text, "fitAt(" + v + ", " + s + ")", x.fitAt(v, s), want);
            }
        }
    }

    private static void compareWeighed(String text, Oracle o, LongTable x) {
        long[] best = o.weighed();
        due(text, "weighed()", x.weighed(), best[o.n() + 3]);
        for (int v = 0; v < 5; v++) {
            due(text, "weighedAt(" + v + ")", x.weighedAt(v), v < o.n() ? best[v] : -1);
        }
        for (int i = 0; i < 3; i++) {
            due(text, "weighedAt(" + (5 + i) + ")", x.weighedAt(5 + i), best[o.n() + i]);
        }
    }
}
