import java.util.ArrayList;
import java.util.List;

/**
 * Edges of the document's sentences. Each edge is a test of its own, and its name is the number of a promise, the
 * sentence in the document's own words and what is tried.
 */
final class Edges {
    private final List<String> names = new ArrayList<>();
    /** The promise and the words of each sentence that has an edge. */
    private final List<Integer> promises = new ArrayList<>();
    private final List<String> sentences = new ArrayList<>();
    private final List<String> failed = new ArrayList<>();
    private int promise;
    private String sentence;
    private String name;
    private int asked;
    private int wrong;

    /** The edges behind this are those of a sentence. */
    void says(int promise, String sentence) {
        this.promise = promise;
        this.sentence = sentence;
    }

    void edge(String what, Runnable trial) {
        name = promise + " | " + sentence + " | " + what;
        asked = 0;
        wrong = 0;
        try {
            trial.run();
        } catch (RuntimeException | StackOverflowError e) {
            wrong(name + ": " + e);
        }
        if (asked == 0) {
            wrong(name + ": nothing was asked");
        }
        if (names.contains(name)) {
            wrong(name + ": two edges have this name");
        }
        names.add(name);
        promises.add(promise);
        sentences.add(sentence);
        if (wrong > 0) {
            failed.add(name);
        }
    }

    private void wrong(String told) {
        wrong++;
        if (wrong <= 5) {
            System.out.println(told);
        }
    }

    void due(String call, long got, long want) {
        asked++;
        if (got != want) {
            wrong(name + ": " + call + " answered " + got + ", due is " + want);
        }
    }

    void due(String call, boolean got, boolean want) {
        due(call, got ? 1 : 0, want ? 1 : 0);
    }

    /** Just NoSuchElementException is due. */
    void dueThrow(String call, Check.Call made) {
        asked++;
        String other = Check.otherThanThrow(made);
        if (!other.isEmpty()) {
            wrong(name + ": " + call + " " + other);
        }
    }

    /** A text without a FAULT, and how many LINES it has. */
    void lines(String text, int lines) {
        LongTable x = new LongTable();
        due("matter() of " + text, Check.matter(x, text), lines);
        due("fault()", x.fault(), 0);
        due("count(2)", x.count(2), 0);
        due("a MATTER", x.count(1) > 0, true);
    }

    /** A text with a FAULT, whose place has a | ahead of it. */
    void fault(String text, int kind) {
        int place = text.indexOf('|');
        faultAt(text.substring(0, place) + text.substring(place + 1), place, kind);
    }

    void faultAt(String text, int place, int kind) {
        LongTable x = new LongTable();
        due("matter() of " + text, Check.matter(x, text), -1 - place);
        due("fault()", x.fault(), kind);
        due("count(2)", x.count(2), 0);
        due("no MATTER", x.count(1), 0);
    }

    List<String> names() {
        return names;
    }

    List<String> failed() {
        return failed;
    }

    /** The words that edges of a promise quote; of any, if 0. */
    List<String> quotes(int of) {
        List<String> quotes = new ArrayList<>();
        for (int i = 0; i < sentences.size(); i++) {
            if (of == 0 || promises.get(i) == of) {
                quotes.add(sentences.get(i));
            }
        }
        return quotes;
    }
}
