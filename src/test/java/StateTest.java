import java.util.NoSuchElementException;

/**
 * Runs of calls with all sorts of arguments on two objects. The second one is spared every call that
 * throws: as a call that throws changes nothing, both answer alike. Nothing but the exception that the
 * document names, and from the calls alone that it names, ever comes out.
 */
public final class StateTest {
    private static final Check CHECK = new Check();
    private static final int CALLS = 43;
    private static final String MAY_THROW = " parts comes knows turns think bestRule minutes shut many ";

    public static void main(String[] args) {
        int thrown = 0;
        for (int seed = 1; seed <= 600; seed++) {
            thrown += run(new Texts(seed));
        }
        CHECK.due("calls that throw are among them", thrown > 10000, true);
        CHECK.end("StateTest");
    }

    private static int run(Texts texts) {
        LongTable x = new LongTable();
        LongTable y = new LongTable();
        int thrown = 0;
        for (int call = 0; call < 500; call++) {
            int what = texts.draw(CALLS + 6);
            int[] a = {some(texts), some(texts), some(texts), some(texts), some(texts)};
            if (what == CALLS) {
                String text = texts.matter(2 + texts.draw(2), 1 + texts.draw(7), 3);
                CHECK.due("matter()", Check.matter(x, text), Check.matter(y, text));
                continue;
            }
            if (what > CALLS) {
                int[] bytes = row(texts, x);
                Check.tape(x, bytes);
                Check.tape(y, bytes);
                continue;
            }
            try {
                long got = call(x, what, a);
                CHECK.due("call " + what, got, call(y, what, a));
            } catch (NoSuchElementException e) {
                thrown++;
                CHECK.due("call " + what + " may throw", MAY_THROW.contains(" " + name(what) + " "), true);
            }
        }
        return thrown;
    }

    /** SIGNS, votes, an order, or nearly so. */
    private static int[] row(Texts texts, LongTable x) {
        int n = x.count(1) + (texts.draw(8) == 0 ? texts.draw(3) - 1 : 0);
        int[] row = new int[Math.max(n, 0)];
        int kind = texts.draw(4);
        for (int i = 0; i < row.length; i++) {
            row[i] = kind == 0 ? (i + 1) % row.length : kind == 1 ? texts.draw(2) * 9 : texts.draw(kind);
        }
        return row;
    }

    private static int some(Texts texts) {
        switch (texts.draw(12)) {
            case 0:
                return texts.draw(2) == 0 ? Integer.MIN_VALUE : Integer.MAX_VALUE;
            case 1:
                return -1 - texts.draw(3);
            case 2:
                return texts.draw(1 << 30) * 5;
            case 3:
                return texts.draw(24);
            default:
                return texts.draw(4);
        }
    }

    private static String name(int what) {
        String[] names = {"feed", "end", "matter", "fault", "count", "signs", "parts", "all", "vote", "decided",
            "right", "comes", "lost", "known", "knows", "turns", "think", "reply", "fit", "settle", "settled",
            "settles", "inTurns", "herd", "says", "cliff", "bestOrder", "bestRule", "bar", "barLost", "silent",
            "helps", "believed", "minutes", "shut", "fits", "fitAt", "weighed", "weighedAt", "guess", "many", "run",
            "count"};
        return names[what];
    }

    private static long call(LongTable x, int what, int[] a) {
        switch (what) {
            case 0: return x.feed(a[0], a[1], a[2], a[3], a[4]);
            case 1: return x.end(a[0]) ? 1 : 0;
            case 2: return x.matter();
            case 3: return x.fault();
            case 4: return x.count(a[0]);
            case 5: return x.signs(a[0]);
            case 6: return x.parts(a[0]);
            case 7: return x.all();
            case 8: return x.vote(a[0], a[1]);
            case 9: return x.decided();
            case 10: return x.right();
            case 11: return x.comes(a[0], a[1]);
            case 12: return x.lost();
            case 13: return x.known();
            case 14: return x.knows(a[0]);
            case 15: return x.turns(a[0], a[1]);
            case 16: return x.think(a[0], a[1], a[2]);
            case 17: return x.reply(a[0], a[1]);
            case 18: return x.fit();
            case 19: return x.settle();
            case 20: return x.settled(a[0], a[1]);
            default: return later(x, what, a);
        }
    }

    private static long later(LongTable x, int what, int[] a) {
        switch (what) {
            case 21: return x.settles(a[0]);
            case 22: return x.inTurns();
            case 23: return x.herd(a[0]);
            case 24: return x.says();
            case 25: return x.cliff();
            case 26: return x.bestOrder();
            case 27: return x.bestRule();
            case 28: return x.bar(a[0], a[1]);
            case 29: return x.barLost();
            case 30: return x.silent();
            case 31: return x.helps(a[0], a[1]);
            case 32: return x.believed(a[0], a[1], a[2]);
            case 33: return x.minutes(a[0], a[1]);
            case 34: return x.shut(a[0], a[1], a[2]);
            case 35: return x.fits();
            case 36: return x.fitAt(a[0], a[1]);
            case 37: return x.weighed();
            case 38: return x.weighedAt(a[0]);
            case 39: return x.guess();
            case 40: return x.many(a[0], a[1]);
            case 41: return x.run(a[0], a[1]);
            default: return x.count(2);
        }
    }
}
