/** Promises 4 and 5: matter() and fault(), by a table of texts and by spoilt ones. */
public final class FaultTest {
    private static final Check CHECK = new Check();
    private static final String TWO = "truth a 5;truth b 15;";
    private static final String SEEN = TWO + "voter x sees 2 10 10 20 0;";

    public static void main(String[] args) {
        accepts();
        refusesTokens();
        refusesNumbers();
        refusesNames();
        refusesOrder();
        longTexts();
        keepsMatter();
        spoiltTexts();
        CHECK.end("FaultTest");
    }

    private static void lines(String text, int lines) {
        LongTable x = new LongTable();
        CHECK.due("matter() of " + text, Check.matter(x, text), lines);
        CHECK.due("fault() of " + text, x.fault(), 0);
        CHECK.due("count(2) behind " + text, x.count(2), 0);
    }

    private static void fault(String text, int place, int kind) {
        LongTable x = new LongTable();
        CHECK.due("matter() of " + text, Check.matter(x, text), -1 - place);
        CHECK.due("fault() of " + text, x.fault(), kind);
        CHECK.due("count(0) behind " + text, x.count(0), 0);
        CHECK.due("count(1) behind " + text, x.count(1), 0);
        CHECK.due("count(2) behind " + text, x.count(2), 0);
    }

    private static void accepts() {
        lines(SEEN, 3);
        lines(" \n" + SEEN + "\n  ", 3);
        lines("truth\na 05 ;\ntruth b 15 ; voter x sees 02 10 10 20 00 ;", 3);
        lines("truth a 6;truth b 6;truth c 8;voter x sees 3 1 2 17 20 0 0 0 0 20;", 4);
        lines(SEEN + "loss a b 50;loss b a 0;loss x a b 0;loss a a 3;", 7);
        lines(SEEN + "way x honest;way x plain;way x shy 1;way x shy 20;way x set none a;", 8);
        lines(SEEN + "weight x 0;weight x 9;", 5);
        lines(SEEN + "rule most;rule most chair x;rule need 1 a else b;rule need 81 b else b;", 7);
        lines(TWO + "loss a b 1;rule need 2 a else b;voter x sees 2 0 20 20 0;", 5);
        lines("truth abcdef 1;truth tru 19;voter truths sees 2 0 20 20 0;", 3);
    }

    private static void refusesTokens() {
        fault("", 0, 1);
        fault("  \n", 3, 1);
        fault(";", 0, 1);
        fault(SEEN + ";", SEEN.length(), 1);
        fault("7", 0, 1);
        fault("truths a 5;", 0, 1);
        fault("truthss", 0, 1);
        fault("honest", 0, 1);
        fault("Truth a 5;", 0, 1);
        fault("truth\ta 5;", 5, 1);
        fault("truth a\r5;", 7, 1);
        fault("truth a.5;", 7, 1);
        fault("truth a5;", 6, 1);
        fault("truth a 5a;", 8, 1);
        fault("truth a 123;", 8, 1);
        fault("truth abcdefg 5;", 6, 1);
        fault("truth a b;", 8, 1);
        fault("truth 5 5;", 6, 1);
        fault("truth ;", 6, 1);
        fault("truth none 5;", 6, 1);
        fault("truth a 5 5;", 10, 1);
        fault("truth a 5", 9, 1);
        fault("truth a 5 \n", 11, 1);
        fault(TWO, TWO.length(), 1);
        fault(TWO + "loss a b 1;", TWO.length() + 11, 1);
        fault(TWO + "x", TWO.length(), 1);
        fault(TWO + "voter sees", TWO.length() + 6, 1);
        fault(TWO + "voter x see 2", TWO.length() + 8, 1);
        fault(TWO + "voter x sees 2 10 10 20;", TWO.length() + 23, 1);
        fault(TWO + "voter x sees 2 10 10 20 0 0;", TWO.length() + 26, 1);
        fault(SEEN + "way x", SEEN.length() + 5, 1);
        fault(SEEN + "way x none;", SEEN.length() + 6, 1);
        fault(SEEN + "way x set a;", SEEN.length() + 11, 1);
        fault(SEEN + "way x set a none none;", SEEN.length() + 17, 1);
        fault(SEEN + "way x set a set", SEEN.length() + 12, 1);
        fault(SEEN + "way x honest 3;", SEEN.length() + 13, 1);
        fault(SEEN + "rule;", SEEN.length() + 4, 1);
        fault(SEEN + "rule all;", SEEN.length() + 5, 1);
        fault(SEEN + "rule most x;", SEEN.length() + 10, 1);
        fault(SEEN + "rule need a", SEEN.length() + 10, 1);
        fault(SEEN + "rule need 3 a b", SEEN.length() + 14, 1);
        fault(SEEN + "weight x;", SEEN.length() + 8, 1);
        fault(SEEN + "loss a b;", SEEN.length() + 8, 1);
        fault(SEEN + "loss a b 1", SEEN.length() + 10, 1);
        fault(SEEN + (char) 233, SEEN.length(), 1);
        fault("truth a 5;truth b 5;none", 20, 1);
        String[] opening = {"truth", "voter", "loss", "way", "weight", "rule"};
        String[] others = {"sees", "honest", "plain", "shy", "set", "none", "most", "chair", "need", "else"};
        for (String key : others) {
            fault(SEEN + key + " x", SEEN.length(), 1);
            noName(key);
        }
        for (String key : opening) {
            noName(key);
        }
        fault("truth a 5;.", 10, 1);
    }

    /** A keyword is no NAME, wherever one is due. */
    private static void noName(String key) {
        fault("truth " + key + " 5;", 6, 1);
        for (String ahead : new String[] {"voter ", "loss ", "loss a ", "loss x a ", "way ", "weight ",
            "rule most chair ", "rule need 1 ", "rule need 1 a else "}) {
            fault(SEEN + ahead + key, SEEN.length() + ahead.length(), 1);
        }
        if (!key.equals("none")) {
            fault(SEEN + "way x set a " + key, SEEN.length() + 12, 1);
        }
        if (!key.equals("honest") && !key.equals("plain") && !key.equals("shy") && !key.equals("set")) {
            fault(SEEN + "way x " + key, SEEN.length() + 6, 1);
        }
    }

    private static void refusesNumbers() {
        fault("truth a 0;", 8, 2);
        fault("truth a 20;", 8, 2);
        fault(TWO + "voter x sees 1", TWO.length() + 13, 2);
        fault(TWO + "voter x sees 4", TWO.length() + 13, 2);
        fault(TWO + "voter x sees 2 21 0", TWO.length() + 15, 2);
        fault(TWO + "voter x sees 2 10 9 1", TWO.length() + 18, 2);
        fault(TWO + "voter x sees 2 20 20 1", TWO.length() + 18, 2);
        fault(TWO + "voter x sees 2 10 10 1 20;", TWO.length() + 23, 2);
        fault(TWO + "voter x sees 3 10 10 1 20;", TWO.length() + 21, 2);
        fault(TWO + "voter x sees 3 10 10 none", TWO.length() + 21, 1);
        fault(SEEN + "loss a b 51;", SEEN.length() + 9, 2);
        fault(SEEN + "weight x 10;", SEEN.length() + 9, 2);
        fault(SEEN + "way x shy 0;", SEEN.length() + 10, 2);
        fault(SEEN + "way x shy 21;", SEEN.length() + 10, 2);
        fault(SEEN + "rule need 0 a else b;", SEEN.length() + 10, 2);
        fault(SEEN + "rule need 82 a else b;", SEEN.length() + 10, 2);
    }

    private static void refusesNames() {
        fault("truth a 5;truth a 15;", 16, 3);
        fault(TWO + "voter a sees", TWO.length() + 6, 3);
        fault(SEEN + "voter x sees", SEEN.length() + 6, 3);
        fault(SEEN + "loss c a 1;", SEEN.length() + 5, 3);
        fault(SEEN + "loss a c 1;", SEEN.length() + 7, 3);
        fault(SEEN + "loss a x 1;", SEEN.length() + 7, 3);
        fault(SEEN + "loss x x a 1;", SEEN.length() + 7, 3);
        fault(SEEN + "loss x a x 1;", SEEN.length() + 9, 3);
        fault(SEEN + "loss x a 1;", SEEN.length() + 9, 1);
        fault(SEEN + "way y honest;", SEEN.length() + 4, 3);
        fault(SEEN + "way a honest;", SEEN.length() + 4, 3);
        fault(SEEN + "way x set x", SEEN.length() + 10, 3);
        fault(SEEN + "way x set a c", SEEN.length() + 12, 3);
        fault(SEEN + "weight b 1;", SEEN.length() + 7, 3);
        fault(SEEN + "weight c 1;", SEEN.length() + 7, 3);
        fault(SEEN + "rule most chair a;", SEEN.length() + 16, 3);
        fault(SEEN + "rule most chair c;", SEEN.length() + 16, 3);
        fault(SEEN + "rule need 1 x else b;", SEEN.length() + 12, 3);
        fault(SEEN + "rule need 1 a else x;", SEEN.length() + 19, 3);
        fault(SEEN + "rule need 1 a else c;", SEEN.length() + 19, 3);
        // A VOTER must be told ahead of what names it.
        fault(TWO + "weight x 2;voter x sees 2 10 10 20 0;", TWO.length() + 7, 3);
    }

    private static void refusesOrder() {
        fault("voter", 0, 4);
        fault("truth a 19;voter x", 11, 4);
        fault("truth a 5;truth b 14;loss a b 1;", 21, 4);
        fault("truth a 5;truth b 16;way", 21, 4);
        fault("truth a 5;truth b 16;weight", 21, 4);
        fault("truth a 5;truth b 16;rule", 21, 4);
        fault("truth a 5;truth b 16;truth c 1;voter x", 31, 4);
        fault("truth a 5;truth b 5;truth c 10;truth d 1;", 31, 4);
        fault(TWO + "loss a b 1; truth c 1;", TWO.length() + 12, 4);
        fault(SEEN + "truth x", SEEN.length(), 4);
        StringBuilder seven = new StringBuilder(TWO);
        for (char v = 'm'; v < 't'; v++) {
            seven.append("voter ").append(v).append(" sees 2 10 10 20 0;");
        }
        lines(seven.toString(), 9);
        fault(seven + "voter m", seven.length(), 4);
        fault(seven + "vote", seven.length(), 1);
    }

    private static String padded(String text, int length) {
        StringBuilder padded = new StringBuilder(text);
        while (padded.length() < length) {
            padded.append(' ');
        }
        return padded.toString();
    }

    private static void longTexts() {
        lines(padded(SEEN, 700), 3);
        fault(padded(SEEN, 701), 700, 1);
        fault(padded(SEEN, 740), 700, 1);
        fault(padded(SEEN, 700) + ".", 700, 1);
        fault(padded(SEEN, 699) + ".", 699, 1);
        fault(padded(SEEN, 699) + ".....", 699, 1);
        // A TOKEN that begins ahead of byte 700 is read whole, one that begins at it is not read.
        fault(padded(SEEN, 695) + "weight", 700, 1);
        fault(padded(SEEN, 695) + "weights", 695, 1);
        fault(padded(SEEN + "weight x ", 699) + "10", 699, 2);
        fault(padded(SEEN + "weight x ", 699) + "123", 699, 1);
        fault(padded(SEEN + "weight x ", 700) + "10", 700, 1);
        fault(padded(SEEN + "weight ", 699) + "a;", 699, 3);
        fault(padded(SEEN, 699) + "truth", 699, 4);
        fault(padded(SEEN, 700) + "truth", 700, 1);
        fault(padded(SEEN + "weight x 1", 699) + ";;", 700, 1);
    }

    private static void keepsMatter() {
        LongTable x = new LongTable();
        CHECK.due("fault() ahead of any", x.fault(), 0);
        CHECK.due("matter()", Check.matter(x, SEEN), 3);
        CHECK.due("all()", x.all(), 400);
        CHECK.due("matter() with a FAULT", Check.matter(x, "truth a 19;truth b 1;voter y sees 3 1 1 1"), -41);
        CHECK.due("fault()", x.fault(), 2);
        CHECK.due("signs(0) of the MATTER that stays", x.signs(0), 2);
        CHECK.due("lost() of the MATTER that stays", x.lost(), 50);
        CHECK.due("matter()", Check.matter(x, SEEN + "weight x 0;"), 4);
        CHECK.due("fault() of the latest", x.fault(), 0);
        CHECK.due("lost()", x.lost(), 300);
    }

    /** Texts with one TOKEN or byte spoilt, against another reader. */
    private static void spoiltTexts() {
        String[] others = {"truth", "voter", "none", "ta", "va", "q", "0", "2", "20", "99", ";", "most", "set",
            "else", "abcdefg", "100", "a1", "?", "", " ", "\n", "chair", "need", "rule", "way", "loss"};
        for (int seed = 1; seed <= 4000; seed++) {
            Texts texts = new Texts(seed);
            String text = texts.matter(2 + texts.draw(2), 1 + texts.draw(3), 3);
            if (seed % 5 == 0) {
                text = padded("", 640) + text;
            }
            for (int i = texts.draw(3); i > 0; i--) {
                String[] tokens = text.split("(?<=[^a-z0-9])|(?=[^a-z0-9])");
                tokens[texts.draw(tokens.length)] = others[texts.draw(others.length)];
                text = String.join("", tokens);
            }
            text = text.substring(0, Math.min(text.length(), 740 - texts.draw(20)));
            Faults want = new Faults(text);
            LongTable x = new LongTable();
            int due = want.kind == 0 ? want.place : -1 - want.place;
            CHECK.due("matter() of " + text, Check.matter(x, text), due);
            CHECK.due("fault() of " + text, x.fault(), want.kind);
        }
    }
}
