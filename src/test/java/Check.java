import java.util.NoSuchElementException;

/** Counts answers that are not due; feeds texts and rows of bytes. */
final class Check {
    private int asked;
    private int wrong;

    /** A call that may throw what the document names. */
    interface Call {
        long answer() throws NoSuchElementException;
    }

    void due(String call, long got, long want) {
        asked++;
        if (got != want) {
            wrong++;
            if (wrong <= 40) {
                System.out.println(call + " answered " + got + ", due is " + want);
            }
        }
    }

    void due(String call, boolean got, boolean want) {
        due(call, got ? 1 : 0, want ? 1 : 0);
    }

    /** Just NoSuchElementException is due. */
    void dueThrow(String call, Call made) {
        asked++;
        String other = otherThanThrow(made);
        if (!other.isEmpty()) {
            wrong++;
            System.out.println(call + " " + other);
        }
    }

    /** What a call does in place of throwing NoSuchElementException; empty, if it throws it. */
    static String otherThanThrow(Call made) {
        String got;
        try {
            got = "answered " + made.answer();
        } catch (RuntimeException e) {
            got = "threw " + e.getClass().getName();
        }
        return got.equals("threw java.util.NoSuchElementException") ? "" : got + ", due is a NoSuchElementException";
    }

    /** Ends the test: exit code 1, if an answer was wrong or none was asked for. */
    void end(String name) {
        System.out.println(name + ": " + asked + " answers, " + wrong + " wrong");
        if (wrong != 0 || asked == 0) {
            System.exit(1);
        }
    }

    /** The tape has just these bytes behind this; those that are cut off behind them are all 255. */
    static void tape(LongTable x, int... bytes) {
        x.end(0);
        for (int i = 0; i < bytes.length; i += 20) {
            int[] five = new int[5];
            for (int j = 0; j < 20; j++) {
                int b = i + j < bytes.length ? bytes[i + j] : 255;
                five[j / 4] = five[j / 4] << 8 | b & 255;
            }
            x.feed(five[0], five[1], five[2], five[3], five[4]);
        }
        x.end(bytes.length);
    }

    static void tape(LongTable x, String text) {
        int[] bytes = new int[text.length()];
        for (int i = 0; i < bytes.length; i++) {
            bytes[i] = text.charAt(i);
        }
        tape(x, bytes);
    }

    static int matter(LongTable x, String text) {
        tape(x, text);
        return x.matter();
    }

    /** Tells a MATTER that is to have no FAULT. */
    static void tell(LongTable x, String text) {
        int lines = matter(x, text);
        if (lines < 0) {
            throw new IllegalStateException("a FAULT at " + (-1 - lines) + " in: " + text);
        }
    }

    static LongTable with(String text) {
        LongTable x = new LongTable();
        tell(x, text);
        return x;
    }
}
