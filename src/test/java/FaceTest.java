import java.lang.reflect.Constructor;
import java.lang.reflect.Field;
import java.lang.reflect.Method;
import java.lang.reflect.Modifier;
import java.nio.file.Files;
import java.nio.file.Path;
import java.util.ArrayList;
import java.util.List;
import java.util.Set;
import java.util.TreeSet;

/** The public face: the lines of the document's code block, and no other. */
public final class FaceTest {
    private static final Check CHECK = new Check();

    public static void main(String[] args) throws Exception {
        List<String> printed = printed(Files.readString(Path.of("../shared/DOC.md")));
        List<String> written = written(Files.readAllLines(Path.of("src/main/java/LongTable.java")));
        CHECK.due("lines of the code block", printed.size(), 46);
        CHECK.due("written in the class: " + written, written.equals(printed), true);
        CHECK.due("compiled: " + compiled(), compiled().equals(withoutNames(printed)), true);
        CHECK.due("the class is public, final", LongTable.class.getModifiers() == (Modifier.PUBLIC | Modifier.FINAL), true);
        CHECK.due("NONE", LongTable.NONE, -1);
        CHECK.end("FaceTest");
    }

    private static List<String> printed(String document) {
        String face = document.substring(document.indexOf("## The public face"));
        int from = face.indexOf("```java\n") + "```java\n".length();
        List<String> lines = new ArrayList<>();
        for (String line : face.substring(from, face.indexOf("```", from)).split("\n")) {
            if (!line.isBlank() && !line.equals("}")) {
                lines.add(line.trim());
            }
        }
        return lines;
    }

    private static List<String> written(List<String> code) {
        List<String> lines = new ArrayList<>();
        for (String line : code) {
            if (line.matches("(import|public) .*")) {
                lines.add(line);
            } else if (line.matches(" *public .*")) {
                lines.add(line.trim().replaceAll(" \\{$", ";"));
            }
        }
        return lines;
    }

    /** Members alone, with the types of what they take. */
    private static Set<String> withoutNames(List<String> printed) {
        Set<String> members = new TreeSet<>();
        for (String line : printed.subList(2, printed.size())) {
            members.add(line.replaceAll("(int|long|boolean) \\w+(?=[,)])", "$1").replaceAll(" = -1;|;", ""));
        }
        return members;
    }

    /** All members of the compiled class that are not private. */
    private static Set<String> compiled() {
        Set<String> members = new TreeSet<>();
        for (Constructor<?> c : LongTable.class.getDeclaredConstructors()) {
            addSeen(members, c, c.getModifiers());
        }
        for (Field f : LongTable.class.getDeclaredFields()) {
            addSeen(members, f, f.getModifiers());
        }
        for (Method m : LongTable.class.getDeclaredMethods()) {
            addSeen(members, m, m.getModifiers());
        }
        return members;
    }

    private static void addSeen(Set<String> members, Object member, int modifiers) {
        if (!Modifier.isPrivate(modifiers)) {
            members.add(member.toString().replace("LongTable.", "").replace(",", ", ").replace("java.util.", ""));
        }
    }
}
