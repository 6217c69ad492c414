import java.io.IOException;
import java.lang.reflect.InvocationTargetException;
import java.lang.reflect.Method;
import java.nio.file.Files;
import java.nio.file.Path;
import java.util.ArrayList;
import java.util.List;
import java.util.Set;
import java.util.TreeSet;
import java.util.regex.Matcher;
import java.util.regex.Pattern;
import java.util.stream.Collectors;
import java.util.stream.Stream;

/** What README.md says is what the program does: its example, done as it stands there, and every answer in its tables. */
public final class ReadmeTest {
    private static final Check CHECK = new Check();
    private static final Pattern ANSWER = Pattern.compile("`(\\w+)\\(([^)`]*)\\)` = ([-\\w]+)(?: \\(tape ([\\d ]+)\\))?");

    public static void main(String[] args) throws Exception {
        String readme = Files.readString(Path.of("README.md"));
        exampleRuns(readme);
        String matter = textOfExample(readme);
        linesAreRead(readme, matter);
        callsAnswer(readme, matter);
        testsAreNamed(readme);
        CHECK.end("ReadmeTest");
    }

    private static String block(String readme, String language) {
        Matcher found = Pattern.compile("(?s)```" + language + "\n(.*?)```").matcher(readme);
        return found.find() ? found.group(1) : "";
    }

    /** Saves the example under its name, gives the command that stands under it, and compares what is printed. */
    private static void exampleRuns(String readme) throws IOException, InterruptedException {
        Path room = Files.createTempDirectory("readme");
        Path main = Path.of("src/main/java/LongTable.java");
        Files.createDirectories(room.resolve(main).getParent());
        Files.copy(main, room.resolve(main));
        Files.writeString(room.resolve("Example.java"), block(readme, "java"));
        Matcher command = Pattern.compile("(?m)^ {4}(javac .* && java -cp out Example)$").matcher(readme);
        CHECK.due("the command is found", command.find(), true);
        Path printed = room.resolve("printed");
        Process run = new ProcessBuilder("sh", "-c", command.group(1)).directory(room.toFile())
            .redirectErrorStream(true).redirectOutput(printed.toFile()).start();
        CHECK.due("exit code", run.waitFor(), 0);
        String got = Files.readString(printed);
        CHECK.due("the example printed:\n" + got, got.equals(block(readme, "text")), true);
        try (Stream<Path> files = Files.walk(room)) {
            List<Path> innermostFirst = files.sorted((a, b) -> b.compareTo(a)).collect(Collectors.toList());
            for (Path file : innermostFirst) {
                Files.delete(file);
            }
        }
    }

    /** The first text that the example feeds. */
    private static String textOfExample(String readme) {
        String code = block(readme, "java");
        String call = code.substring(code.indexOf("text(\""), code.indexOf("));", code.indexOf("text(\"")));
        StringBuilder text = new StringBuilder();
        Matcher pieces = Pattern.compile("\"([^\"]*)\"").matcher(call);
        while (pieces.find()) {
            text.append(pieces.group(1));
        }
        return text.toString();
    }

    private static void linesAreRead(String readme, String matter) {
        int lines = matter.split(";").length;
        Matcher rows = Pattern.compile("(?m)^\\| `([a-z0-9 ]+;)` \\|").matcher(readme);
        int count = 0;
        while (rows.find()) {
            count++;
            String line = rows.group(1);
            boolean opens = line.matches("(truth|voter) .*");
            if (opens) {
                CHECK.due(line + " stands in the example", matter.contains(line), true);
            } else {
                CHECK.due(line + " is read", Check.matter(new LongTable(), matter + line), lines + 1);
            }
        }
        CHECK.due("LINES of the table", count, 7);
        String need = "rule need 3 rain else sun;";
        CHECK.due("the other rule stands there", readme.contains("`" + need.substring(5, need.length() - 1) + "`"), true);
        CHECK.due(need + " is read", Check.matter(new LongTable(), matter + need), lines + 1);
    }

    /** The calls of the table one after another, on one object that has read the example's MATTER. */
    private static void callsAnswer(String readme, String matter) throws IllegalAccessException {
        LongTable x = new LongTable();
        Check.tell(x, matter);
        List<String> told = new ArrayList<>();
        Matcher rows = Pattern.compile("(?m)^\\| `(\\w+)\\((.*?)\\)` \\|.*\\| (.*) \\|$").matcher(readme);
        while (rows.find()) {
            told.add(rows.group(1));
            Matcher answers = ANSWER.matcher(rows.group(3));
            StringBuilder left = new StringBuilder();
            while (answers.find()) {
                CHECK.due(answers.group() + " is of the row", answers.group(1).equals(rows.group(1)), true);
                if (answers.group(4) != null) {
                    Check.tape(x, numbers(answers.group(4).split(" ")));
                }
                String got = answer(x, answers.group(1), numbers(answers.group(2).split(", ")));
                CHECK.due(answers.group() + " answered " + got, got.equals(answers.group(3)), true);
                answers.appendReplacement(left, "");
            }
            answers.appendTail(left);
            CHECK.due(rows.group() + " has answers alone", left.toString().replaceAll("[, ]", "").isEmpty(), true);
        }
        CHECK.due("the calls told are " + told, told.equals(face()), true);
    }

    private static int[] numbers(String[] told) {
        return Stream.of(told).filter(one -> !one.isEmpty()).mapToInt(Integer::parseInt).toArray();
    }

    private static String answer(LongTable x, String name, int[] with) throws IllegalAccessException {
        for (Method call : LongTable.class.getMethods()) {
            if (call.getName().equals(name) && call.getParameterCount() == with.length) {
                Object[] each = java.util.Arrays.stream(with).boxed().toArray();
                try {
                    return String.valueOf(call.invoke(x, each));
                } catch (InvocationTargetException e) {
                    return e.getCause().getClass().getSimpleName();
                }
            }
        }
        return "no such call";
    }

    /** The calls in the order of the document's promises. */
    private static List<String> face() {
        List<String> calls = new ArrayList<>();
        try {
            Matcher heads = Pattern.compile("(?m)^## Promise \\d+: (\\w+)$").matcher(Files.readString(Path.of("../shared/DOC.md")));
            while (heads.find()) {
                calls.add(heads.group(1));
            }
        } catch (IOException e) {
            calls.clear();
        }
        return calls;
    }

    private static void testsAreNamed(String readme) throws IOException {
        Set<String> named = new TreeSet<>();
        Matcher rows = Pattern.compile("(?m)^\\| (\\w+Test) \\|").matcher(readme);
        while (rows.find()) {
            named.add(rows.group(1));
        }
        try (Stream<Path> files = Files.list(Path.of("src/test/java"))) {
            Set<String> there = files.map(file -> file.getFileName().toString()).filter(name -> name.endsWith("Test.java"))
                .map(name -> name.replace(".java", "")).collect(Collectors.toCollection(TreeSet::new));
            CHECK.due("tests named " + named + ", there are " + there, named.equals(there), true);
        }
    }
}
