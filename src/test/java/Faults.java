import java.util.ArrayDeque;
import java.util.ArrayList;
import java.util.Deque;
import java.util.HashMap;
import java.util.List;
import java.util.Map;

/** Finds the first FAULT of a text by a heap of what may come, TOKEN by TOKEN. */
final class Faults {
    private static final List<String> KEYS = List.of("truth", "voter", "sees", "loss", "way", "weight", "rule",
        "honest", "plain", "shy", "set", "none", "most", "chair", "need", "else");

    /** 0 without a FAULT. */
    int kind;
    /** The place of the FAULT, or how many LINES there are. */
    int place;

    /** What comes next, the first one on top. */
    private final Deque<String> due = new ArrayDeque<>();
    private final List<Integer> chances = new ArrayList<>();
    /** NAME to how many SIGNS it has; 0 for a TRUTH. */
    private final Map<String, Integer> names = new HashMap<>();
    private int voters;
    private boolean others;
    private String named;
    private int sum;
    private int lines;

    Faults(String text) {
        due.push("LINE");
        int at = 0;
        while (kind == 0) {
            while (at < text.length() && (text.charAt(at) == ' ' || text.charAt(at) == '\n')) {
                at++;
            }
            if (at >= Math.min(text.length(), 700)) {
                break;
            }
            int to = at;
            while (to < text.length() && String.valueOf(text.charAt(to)).matches("[a-z0-9]")) {
                to++;
            }
            to = Math.max(to, at + 1);
            String token = text.substring(at, to);
            kind = token.matches("[a-z]{1,6}|[0-9]{1,2}|;") ? take(token) : 1;
            place = at;
            at = to;
        }
        if (kind == 0) {
            boolean ends = due.peek().equals("LINE") && voters > 0 && text.length() <= 700;
            kind = ends ? 0 : 1;
            place = ends ? lines : Math.min(text.length(), 700);
        }
    }

    private void then(String... items) {
        for (int i = items.length - 1; i >= 0; i--) {
            due.push(items[i]);
        }
    }

    /** The kind of FAULT that a TOKEN is, or 0. */
    private int take(String token) {
        String item = due.pop();
        String[] part = item.split(" ");
        switch (part[0]) {
            case "LINE":
                return line(token);
            case ";":
                lines++;
                then("LINE");
                return token.equals(";") ? 0 : 1;
            case "WORD":
                return token.equals(part[1]) ? 0 : 1;
            case "NUMBER":
                return number(token, part);
            case "WAY":
                return way(token);
            case "RULE":
                return rule(token);
            case "CHAIR?":
                if (token.equals("chair")) {
                    then("NAME voter", ";");
                    return 0;
                }
                then("LINE");
                lines++;
                return token.equals(";") ? 0 : 1;
            case "VOTE":
                return token.equals("none") ? 0 : name(token, "truth");
            default:
                return name(token, part[1]);
        }
    }

    private int line(String token) {
        if (token.equals("truth")) {
            then("NAME newtruth", "NUMBER 1 19 chance", ";");
            return others || chances.size() == 3 ? 4 : 0;
        }
        switch (token) {
            case "voter" -> then("NAME newvoter", "WORD sees", "NUMBER 2 3 signs", ";");
            case "loss" -> then("NAME any", "NAME truth", "NUMBER 0 50 loss", ";");
            case "way" -> then("NAME voter", "WAY");
            case "weight" -> then("NAME voter", "NUMBER 0 9 weight", ";");
            case "rule" -> then("RULE");
            default -> {
                return 1;
            }
        }
        others = true;
        int all = 0;
        for (int chance : chances) {
            all += chance;
        }
        return all != 20 || chances.size() < 2 || token.equals("voter") && voters == 7 ? 4 : 0;
    }

    private int number(String token, String[] part) {
        if (!Character.isDigit(token.charAt(0))) {
            return 1;
        }
        int value = Integer.parseInt(token);
        if (value < Integer.parseInt(part[1]) || value > Integer.parseInt(part[2])) {
            return 2;
        }
        switch (part[3]) {
            case "chance":
                chances.add(value);
                return 0;
            case "signs":
                voters++;
                names.put(named, value);
                for (int t = 0; t < chances.size(); t++) {
                    then("NUMBER 0 20 last");
                    for (int s = 1; s < value; s++) {
                        then("NUMBER 0 20 like");
                    }
                }
                return 0;
            case "like":
                sum += value;
                return 0;
            case "last":
                int all = sum + value;
                sum = 0;
                return all == 20 ? 0 : 2;
            default:
                return 0;
        }
    }

    private int way(String token) {
        switch (token) {
            case "honest", "plain" -> then(";");
            case "shy" -> then("NUMBER 1 20 shy", ";");
            case "set" -> {
                then(";");
                for (int s = 0; s < names.get(named); s++) {
                    then("VOTE");
                }
            }
            default -> {
                return 1;
            }
        }
        return 0;
    }

    private int rule(String token) {
        if (token.equals("most")) {
            then("CHAIR?");
            return 0;
        }
        then("NUMBER 1 81 need", "NAME truth", "WORD else", "NAME truth", ";");
        return token.equals("need") ? 0 : 1;
    }

    private int name(String token, String sort) {
        if (!token.matches("[a-z]+") || KEYS.contains(token)) {
            return 1;
        }
        boolean told = names.containsKey(token);
        boolean voter = told && names.get(token) > 0;
        switch (sort) {
            case "newtruth":
                names.putIfAbsent(token, 0);
                return told ? 3 : 0;
            case "newvoter":
                named = token;
                return told ? 3 : 0;
            case "truth":
                return told && !voter ? 0 : 3;
            case "voter":
                named = token;
                return voter ? 0 : 3;
            default:
                if (voter) {
                    then("NAME truth");
                }
                return told ? 0 : 3;
        }
    }
}
