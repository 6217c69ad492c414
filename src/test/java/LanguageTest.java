import java.lang.reflect.Field;
import java.lang.reflect.Method;
import java.lang.reflect.Modifier;
import java.nio.file.Files;
import java.nio.file.Path;
import java.util.Set;
import java.util.TreeSet;
import java.util.regex.Matcher;
import java.util.regex.Pattern;

/** What can be seen of LANGUAGE.md in the class and in its text. */
public final class LanguageTest {
    private static final Check CHECK = new Check();

    public static void main(String[] args) throws Exception {
        members();
        String code = Files.readString(Path.of("src/main/java/LongTable.java"));
        code = code.replaceAll("(?s)/\\*.*?\\*/", "").replaceAll("//.*", "");
        words(code);
        methods(code);
        CHECK.end("LanguageTest");
    }

    private static void members() {
        Set<String> names = new TreeSet<>();
        for (Method m : LongTable.class.getMethods()) {
            names.add(m.getName());
        }
        for (Method m : LongTable.class.getDeclaredMethods()) {
            boolean hidden = Modifier.isPrivate(m.getModifiers());
            CHECK.due(m.getName() + " is private or of the face", hidden != Modifier.isPublic(m.getModifiers()), true);
            CHECK.due(m.getName() + " hides no public name", hidden && names.contains(m.getName()), false);
        }
        for (Field f : LongTable.class.getDeclaredFields()) {
            CHECK.due(f.getName(), Modifier.isPrivate(f.getModifiers()) || f.getName().equals("NONE"), true);
        }
        classes(names);
    }

    private static void classes(Set<String> names) {
        Class<?>[] inside = LongTable.class.getDeclaredClasses();
        CHECK.due("classes", inside.length + 1 <= 12, true);
        for (Class<?> one : inside) {
            int fields = 0;
            for (Field f : one.getDeclaredFields()) {
                boolean fixed = Modifier.isStatic(f.getModifiers());
                fields += fixed ? 0 : 1;
                CHECK.due(f + " is final", fixed && !Modifier.isFinal(f.getModifiers()), false);
            }
            CHECK.due(one + " has " + fields + " fields", fields <= 20, true);
            for (Method m : one.getDeclaredMethods()) {
                CHECK.due(m + " bears a public name", names.contains(m.getName()), false);
                CHECK.due(m + " has seven parameters at most", m.getParameterCount() <= 7, true);
            }
        }
    }

    private static void words(String code) {
        String[] none = {"->", "::", "\"", "@"};
        for (String sign : none) {
            CHECK.due("no " + sign, code.contains(sign), false);
        }
        Matcher words = Pattern.compile("\\b(try|catch|finally|synchronized|assert|instanceof|record|enum|interface|"
            + "abstract|extends|implements|var|volatile|transient|native|double|float|String|Object|List|ArrayList|"
            + "Integer|Exception|RuntimeException|System|Arrays|protected|package|null|hashCode|equals|toString)\\b")
            .matcher(code);
        CHECK.due("no such word as " + (words.find() ? words.group() : ""), words.reset().find(), false);
        Matcher imports = Pattern.compile("import ([^;]*);").matcher(code);
        int count = 0;
        while (imports.find()) {
            count++;
            CHECK.due(imports.group(), imports.group(1).equals("java.util.NoSuchElementException"), true);
        }
        CHECK.due("imports", count, 1);
        Matcher library = Pattern.compile("\\bMath\\.(\\w+)").matcher(code);
        while (library.find()) {
            CHECK.due(library.group(), library.group(1).matches("min|max"), true);
        }
        Matcher thrown = Pattern.compile("throw ([^;]*);").matcher(code);
        while (thrown.find()) {
            CHECK.due(thrown.group(), thrown.group(1).equals("new NoSuchElementException()"), true);
        }
        for (char c : code.toCharArray()) {
            CHECK.due("a sign " + (int) c, c == '\n' || c >= 32 && c < 127, true);
        }
    }

    /** Objects and rows are made in constructors alone; methods are short. */
    private static void methods(String code) {
        Matcher heads = Pattern.compile("(?m)^( {4}| {8})(\\w[\\w\\[\\] ]*\\([^)]*\\)[\\w ]*) \\{\\n(.*?)^\\1\\}", Pattern.DOTALL
            | Pattern.MULTILINE).matcher(code);
        int count = 0;
        while (heads.find()) {
            count++;
            String body = heads.group(3);
            long lines = body.lines().count();
            CHECK.due(heads.group(2) + " has " + lines + " lines", lines <= 60, true);
            boolean constructor = heads.group(2).matches("(public )?[A-Z]\\w*\\(.*");
            boolean makes = body.replace("throw new NoSuchElementException()", "").matches("(?s).*\\bnew\\b.*");
            CHECK.due(heads.group(2) + " makes nothing", makes && !constructor, false);
            CHECK.due(heads.group(2) + " throws in a constructor", constructor && body.contains("throw"), false);
        }
        CHECK.due("methods are found", count > 150, true);
    }
}
