import java.nio.file.Files;
import java.nio.file.Path;
import java.util.LinkedHashSet;
import java.util.List;
import java.util.Set;
import java.util.regex.Matcher;
import java.util.regex.Pattern;

/**
 * Runs the edges of all promises, and holds their names to the document: what they quote stands in it, under their
 * promise or among the terms, and no sentence of a promise or of the terms is left without an edge.
 * With 'list' as an argument it prints every name.
 */
public final class EdgesTest {
    private static final Path DOC = Path.of("../shared/DOC.md");
    private static final int PROMISES = 43;
    private static int wrong;

    public static void main(String[] args) throws Exception {
        Edges edges = new Edges();
        TapeEdges.all(edges);
        TextEdges.all(edges);
        FaultEdges.all(edges);
        MatterEdges.all(edges);
        CountEdges.all(edges);
        VoiceEdges.all(edges);
        TurnsEdges.all(edges);
        RulesEdges.all(edges);
        WordsEdges.all(edges);
        FitsEdges.all(edges);
        ThrowEdges.all(edges);
        if (args.length > 0) {
            edges.names().forEach(System.out::println);
        }
        compareWithDocument(edges, Files.readString(DOC));
        wrong += edges.failed().size();
        System.out.println("EdgesTest: " + edges.names().size() + " edges, " + wrong + " wrong");
        if (wrong != 0) {
            System.exit(1);
        }
    }

    private static void compareWithDocument(Edges edges, String document) {
        String ahead = plain(document.substring(0, document.indexOf("## Promise 1:")));
        for (int promise = 1; promise <= PROMISES; promise++) {
            String told = promise(document, promise);
            List<String> quotes = edges.quotes(promise);
            for (String quote : new LinkedHashSet<>(quotes)) {
                if (!told.contains(quote) && !ahead.contains(quote)) {
                    fail("promise " + promise + " and the terms do not say: " + quote);
                }
            }
            demandAll("promise " + promise, told, quotes);
        }
        int from = ahead.indexOf("A MATTER is a text");
        demandAll("the terms", ahead.substring(from), edges.quotes(0));
    }

    private static String plain(String text) {
        return text.replace("```text", "").replace("```", "").replaceAll("\\s+", " ");
    }

    /** What a promise says behind its head and its signature. */
    private static String promise(String document, int promise) {
        Matcher found = Pattern.compile("(?s)## Promise " + promise + ": [^\n]*\n\n`[^`]*`: (.*?)(?=\n## )").matcher(document);
        if (!found.find()) {
            fail("promise " + promise + " is not found");
            return "";
        }
        return plain(found.group(1));
    }

    /** Whether every letter and digit of a text stands in some quote. */
    private static void demandAll(String where, String told, List<String> quotes) {
        boolean[] quoted = new boolean[told.length()];
        Set<String> each = new LinkedHashSet<>(quotes);
        for (String quote : each) {
            for (int at = told.indexOf(quote); at >= 0; at = told.indexOf(quote, at + 1)) {
                for (int i = at; i < at + quote.length(); i++) {
                    quoted[i] = true;
                }
            }
        }
        StringBuilder left = new StringBuilder();
        for (int i = 0; i < told.length(); i++) {
            left.append(quoted[i] ? '~' : told.charAt(i));
        }
        for (String piece : left.toString().split("~+")) {
            if (piece.matches(".*[A-Za-z0-9].*") && !piece.trim().matches("==== \\d\\.")) {
                fail(where + " has a sentence without an edge: " + piece);
            }
        }
    }

    private static void fail(String told) {
        wrong++;
        System.out.println(told);
    }
}
