/** Edges of promises 4 and 5: the FAULTS, by each kind and its place. */
final class FaultEdges {
    private static final String TWO = Examples.TWO;
    private static final String SEEN = Examples.SEEN;
    private static final String THREE_TRUTHS = "truth a 5;truth b 5;truth c 10;";

    private FaultEdges() {
    }

    static void all(Edges e) {
        first(e);
        least(e);
        noToken(e);
        cantCome(e);
        end(e);
        beyond(e);
        withoutVoter(e);
        numbers(e);
        sums(e);
        names(e);
        tooMany(e);
        behindAnother(e);
        truths(e);
        kinds(e);
        aheadOfAny(e);
    }

    private static void first(Edges e) {
        e.says(4, "FAULTS, the first along the text");
        e.edge("a kind 2 ahead of a kind 1", () -> e.fault("truth a |0 ?;", 2));
        e.edge("a kind 1 ahead of a kind 2", () -> e.fault("truth |? 0;", 1));
        e.edge("a kind 3 ahead of a kind 2", () -> e.fault("truth a 5;truth |a 0;", 3));
        e.edge("a kind 4 ahead of a kind 3", () -> e.fault("truth a 5;|loss b b 1;", 4));
        e.edge("a kind 2 ahead of a kind 4", () -> e.fault("truth a |0;loss a a 1;", 2));
        e.edge("a kind 1 ahead of a kind 4", () -> e.fault("truth a 5|.;voter x;", 1));
        e.edge("one at place 1 ahead of 700 bytes too many", () -> e.faultAt(" ?" + " ".repeat(738), 1, 1));
        e.edge("a NUMBER too great ahead of those that do not add to 20", () -> e.fault(
            TWO + "voter x sees 2 |21 3 20 0;", 2));
        e.edge("the second of two LINES with one each", () -> e.fault(SEEN + "weight |y 1;weight x 10;", 3));
    }

    private static void least(Edges e) {
        e.says(4, "of one TOKEN the least");
        e.edge("a WORD that can't come where a fourth LINE shows one TRUTH", () -> e.fault("truth a 5;|none a;", 1));
        e.edge("a NAME there", () -> e.fault("truth a 5;|a 5;", 1));
        e.edge("a NUMBER there", () -> e.fault("truth a 5;truth b 5;|15;", 1));
        e.edge("a stop there", () -> e.fault("truth a 5;truth b 5;|;", 1));
        e.edge("what is no TOKEN there", () -> e.fault("truth a 5;truth b 5;|voters x;", 1));
        e.edge("seven letters there", () -> e.fault("truth a 5;truth b 5;|truthss x;", 1));
        e.edge("what is no TOKEN for a fourth TRUTH", () -> e.fault(THREE_TRUTHS + "|truth4 d 1;", 1));
        e.edge("what is no TOKEN for an eighth VOTER", () -> e.fault(
            Examples.alike(TWO, 7, "2 10 10 20 0") + "|voter8 w sees 2;", 1));
        e.edge("a NUMBER of three digits is kind 1, not 2", () -> e.fault(SEEN + "weight x |100;", 1));
        e.edge("a keyword for a NAME is kind 1, not 3", () -> e.fault(SEEN + "weight |none 1;", 1));
        e.edge("the last NUMBER, too great and not adding to 20, is one of kind 2", () -> e.fault(
            TWO + "voter x sees 2 0 |21 10 10;", 2));
    }

    private static void noToken(Edges e) {
        e.says(4, "1 no TOKEN, or one that can't come (at it");
        String[] none = {"?", ".", ",", "A", "abcdefg", "123", "a1", "1a", "\t", "\r", "" + (char) 0, "" + (char) 255};
        for (String sign : none) {
            String shown = sign.charAt(0) > 32 && sign.charAt(0) < 127 ? sign : "byte " + (int) sign.charAt(0);
            e.edge(shown + " at the first WORD of a LINE", () -> e.fault("|" + sign + " a 5;", 1));
            e.edge(shown + " at a NAME", () -> e.fault("truth |" + sign + " 5;", 1));
            e.edge(shown + " at a NUMBER", () -> e.fault("truth a |" + sign + ";", 1));
            e.edge(shown + " at a stop", () -> e.fault("truth a 5 |" + sign + ";", 1));
            e.edge(shown + " at a sees", () -> e.fault(TWO + "voter x |" + sign + " 2;", 1));
            e.edge(shown + " at a WAY", () -> e.fault(SEEN + "way x |" + sign + ";", 1));
            e.edge(shown + " at a vote that is set", () -> e.fault(SEEN + "way x set a |" + sign + ";", 1));
            e.edge(shown + " at a RULE", () -> e.fault(SEEN + "rule |" + sign + ";", 1));
            e.edge(shown + " at a chair", () -> e.fault(SEEN + "rule most |" + sign + ";", 1));
            e.edge(shown + " at an else", () -> e.fault(SEEN + "rule need 1 a |" + sign + " b;", 1));
            e.edge(shown + " behind all LINES", () -> e.fault(SEEN + "|" + sign, 1));
        }
    }

    private static void cantCome(Edges e) {
        e.says(4, "one that can't come (at it");
        for (String key : new String[] {"sees", "honest", "plain", "shy", "set", "none", "most", "chair", "need", "else"}) {
            e.edge(key + " opens no LINE", () -> {
                e.fault("|" + key + " a 5;", 1);
                e.fault(SEEN + "|" + key + " x;", 1);
            });
        }
        e.edge("a NAME opens no LINE", () -> e.fault(SEEN + "|x;", 1));
        e.edge("a NUMBER opens no LINE", () -> e.fault("|5", 1));
        e.edge("a NUMBER where a NAME is due", () -> e.fault("truth |5;", 1));
        e.edge("a stop where a NAME is due", () -> e.fault("truth |;", 1));
        e.edge("a WORD where a NUMBER is due", () -> e.fault("truth a |b;", 1));
        e.edge("a stop where a NUMBER is due", () -> e.fault("truth a |;", 1));
        e.edge("a NUMBER where a stop is due", () -> e.fault("truth a 5 |5;", 1));
        e.edge("a WORD where a stop is due", () -> e.fault("truth a 5 |b;", 1));
        e.edge("a NAME where sees is due", () -> e.fault(TWO + "voter x |see 2;", 1));
        e.edge("else where sees is due", () -> e.fault(TWO + "voter x |else 2;", 1));
        e.edge("a stop where a SIGN is due", () -> e.fault(TWO + "voter x sees 2 10|;", 1));
        e.edge("a WORD where a SIGN is due", () -> e.fault(TWO + "voter x sees 2 10 |a;", 1));
        e.edge("most where a WAY is due", () -> e.fault(SEEN + "way x |most;", 1));
        e.edge("honest where a RULE is due", () -> e.fault(SEEN + "rule |honest;", 1));
        e.edge("a NUMBER where a RULE is due", () -> e.fault(SEEN + "rule |1;", 1));
        e.edge("else where a chair is due", () -> e.fault(SEEN + "rule most |else x;", 1));
        e.edge("a NUMBER where a chair's VOTER is due", () -> e.fault(SEEN + "rule most chair |1;", 1));
        e.edge("a NAME where a need's NUMBER is due", () -> e.fault(SEEN + "rule need |a else b;", 1));
        e.edge("a NAME where an else is due", () -> e.fault(SEEN + "rule need 1 a |b;", 1));
        e.edge("sees where an else is due", () -> e.fault(SEEN + "rule need 1 a |sees b;", 1));
        e.edge("a NUMBER where a LOSS's TRUTH is due", () -> e.fault(SEEN + "loss |1;", 1));
    }

    private static void end(Edges e) {
        e.says(4, "the end: how many bytes there are");
        e.edge("of no bytes", () -> e.fault("|", 1));
        e.edge("of blanks", () -> e.fault(" \n |", 1));
        String text = SEEN + "loss x a b 1;way x shy 5;way x set a none;weight x 1;rule most chair x;rule need 1 a else b;";
        e.edge("the whole", () -> e.lines(text, 9));
        for (int i = 1; i < text.length(); i++) {
            int cut = i;
            boolean behindLine = text.charAt(i - 1) == ';' && i >= SEEN.length();
            // Cut within a NUMBER or a WORD what is left may be at FAULT itself, and sooner.
            boolean withinToken = isSign(text.charAt(i - 1)) && isSign(text.charAt(i));
            if (!behindLine && !withinToken) {
                e.edge("behind " + i + " bytes of a LINE, and blanks", () -> {
                    e.fault(text.substring(0, cut) + "|", 1);
                    e.fault(text.substring(0, cut) + " \n|", 1);
                });
            }
        }
        e.edge("700 bytes that end within a LINE", () -> e.faultAt(
            Examples.padded(SEEN + "weight x", 700), 700, 1));
        e.edge("699 bytes that end within a LINE", () -> e.faultAt(
            Examples.padded(SEEN + "weight x", 699), 699, 1));
    }

    private static boolean isSign(char c) {
        return c != ' ' && c != ';';
    }

    private static void beyond(Edges e) {
        e.says(4, "700, if there are more and no FAULT is ahead");
        e.edge("701 bytes without a FAULT", () -> e.faultAt(Examples.padded(SEEN, 701), 700, 1));
        e.edge("740 bytes without a FAULT", () -> e.faultAt(Examples.padded(SEEN, 740), 700, 1));
        e.edge("740 bytes that end within a LINE", () -> e.faultAt(Examples.padded(SEEN + "weight x", 740), 700, 1));
        e.edge("740 blanks", () -> e.faultAt(" ".repeat(740), 700, 1));
        e.edge("what is no TOKEN at 699", () -> e.faultAt(Examples.padded(SEEN, 699) + "??", 699, 1));
        e.edge("what is no TOKEN at 700", () -> e.faultAt(Examples.padded(SEEN, 700) + "??", 700, 1));
        e.edge("a kind 2 at 698", () -> e.faultAt(Examples.padded(SEEN + "weight x", 698) + "10;", 698, 2));
        e.edge("a kind 2 at 700", () -> e.faultAt(Examples.padded(SEEN + "weight x", 700) + "10;", 700, 1));
        e.edge("a kind 3 at 699", () -> e.faultAt(Examples.padded(SEEN + "weight", 699) + "y;", 699, 3));
        e.edge("a kind 3 at 700", () -> e.faultAt(Examples.padded(SEEN + "weight", 700) + "y;", 700, 1));
        e.edge("a kind 4 at 695", () -> e.faultAt(Examples.padded(SEEN, 695) + "truth c 1;", 695, 4));
        e.edge("a kind 4 at 700", () -> e.faultAt(Examples.padded(SEEN, 700) + "truth c 1;", 700, 1));
        e.edge("a stop at 699 and another at 700", () -> e.faultAt(
            Examples.padded(SEEN + "weight x 1", 699) + ";;", 700, 1));
        e.says(4, "TOKENS that begin ahead of it are read whole");
        e.edge("truth at 699, of kind 4", () -> e.faultAt(Examples.padded(SEEN, 699) + "truth c 1;", 699, 4));
        e.edge("truth at 696, of kind 4", () -> e.faultAt(Examples.padded(SEEN, 696) + "truth c 1;", 696, 4));
        e.edge("six letters at 699 that may come", () -> e.faultAt(Examples.padded(SEEN, 699) + "weight x", 700, 1));
        e.edge("seven letters at 699", () -> e.faultAt(Examples.padded(SEEN, 699) + "weights", 699, 1));
        e.edge("seven letters at 694, the last one at 700", () -> e.faultAt(
            Examples.padded(SEEN, 694) + "weights", 694, 1));
        e.edge("two digits at 699 that may come", () -> e.faultAt(
            Examples.padded(SEEN + "weight x", 699) + "09;", 700, 1));
        e.edge("two digits at 699, of kind 2", () -> e.faultAt(
            Examples.padded(SEEN + "weight x", 699) + "10;", 699, 2));
        e.edge("three digits at 699", () -> e.faultAt(Examples.padded(SEEN + "weight x", 699) + "123;", 699, 1));
        e.edge("a NAME at 699 that is not told, though its first letter is", () -> e.faultAt(
            Examples.padded(SEEN + "weight", 699) + "xx", 699, 3));
        e.edge("forty letters at 699 up to the last byte", () -> e.faultAt(
            Examples.padded(SEEN, 699) + "a".repeat(41), 699, 1));
    }

    private static void withoutVoter(Edges e) {
        e.says(4, "also at the end without a VOTER)");
        e.edge("behind two TRUTHS", () -> e.fault(TWO + "|", 1));
        e.edge("behind three TRUTHS and a blank", () -> e.fault(THREE_TRUTHS + " |", 1));
        e.edge("behind TRUTHS that do not add to 20", () -> e.fault("truth a 5;truth b 5;|", 1));
        e.edge("behind one TRUTH", () -> e.fault("truth a 5;|", 1));
        e.edge("behind a LOSS and a RULE", () -> e.fault(TWO + "loss a b 1;rule need 1 a else b;|", 1));
        e.edge("behind 700 bytes", () -> e.faultAt(Examples.padded(TWO, 700), 700, 1));
        e.edge("behind a MATTER that had one", () -> {
            LongTable x = Check.with(SEEN);
            e.due("matter()", Check.matter(x, TWO), -1 - TWO.length());
            e.due("fault()", x.fault(), 1);
        });
    }

    private static void numbers(Edges e) {
        e.says(4, "2 a NUMBER that is not as told (at it");
        e.edge("a chance of 0", () -> e.fault("truth a |0;", 2));
        e.edge("a chance of 20", () -> e.fault("truth a |20;", 2));
        e.edge("00 for a chance", () -> e.fault("truth a |00;", 2));
        e.edge("1 SIGN", () -> e.fault(TWO + "voter x sees |1;", 2));
        e.edge("4 SIGNS", () -> e.fault(TWO + "voter x sees |4;", 2));
        e.edge("21 for a SIGN", () -> e.fault(TWO + "voter x sees 3 0 |21 0;", 2));
        e.edge("51 for a LOSS", () -> e.fault(SEEN + "loss a b |51;", 2));
        e.edge("shy 0", () -> e.fault(SEEN + "way x shy |0;", 2));
        e.edge("shy 21", () -> e.fault(SEEN + "way x shy |21;", 2));
        e.edge("10 for a WEIGHT", () -> e.fault(SEEN + "weight x |10;", 2));
        e.edge("need 0", () -> e.fault(SEEN + "rule need |0;", 2));
        e.edge("need 82", () -> e.fault(SEEN + "rule need |82;", 2));
    }

    private static void sums(Edges e) {
        e.says(4, "the last of those that are to add to 20, if they do not: of SIGNS under one TRUTH)");
        e.edge("of two, too few", () -> e.fault(TWO + "voter x sees 2 0 |0 0 20;", 2));
        e.edge("of two, too many", () -> e.fault(TWO + "voter x sees 2 20 |20 0 20;", 2));
        e.edge("of three, too many with the second one", () -> e.fault(TWO + "voter x sees 3 20 20 |0 0 0 20;", 2));
        e.edge("of three, too few by one", () -> e.fault(TWO + "voter x sees 3 1 1 |17 0 0 20;", 2));
        e.edge("under the second TRUTH", () -> e.fault(TWO + "voter x sees 3 1 1 18 0 1 |20;", 2));
        e.edge("under the third TRUTH", () -> e.fault(THREE_TRUTHS + "voter x sees 2 0 20 0 20 0 |19;", 2));
        e.edge("of the second VOTER", () -> e.fault(SEEN + "voter y sees 2 0 |19 0 20;", 2));
        e.edge("not reached by the end of the text", () -> e.fault(TWO + "voter x sees 3 20 20|", 1));
        e.edge("chances of TRUTHS are of kind 4", () -> e.fault("truth a 19;truth b 19;|rule most;", 4));
    }

    private static void names(Edges e) {
        e.says(4, "3 a NAME told twice, not told, or of the other sort (at it)");
        e.edge("told twice: TRUTHS", () -> e.fault("truth a 5;truth b 5;truth |a 10;", 3));
        e.edge("told twice: TRUTH and VOTER", () -> e.fault(TWO + "voter |b sees 2;", 3));
        e.edge("told twice: VOTERS", () -> e.fault(SEEN + "voter |x sees 2;", 3));
        e.edge("told twice: the seventh VOTER", () -> e.fault(
            Examples.alike(TWO, 6, "2 10 10 20 0") + "voter |u sees 2;", 3));
        e.edge("not told: in a LOSS, first", () -> e.fault(SEEN + "loss |c a 1;", 3));
        e.edge("not told: in a LOSS, second", () -> e.fault(SEEN + "loss a |c 1;", 3));
        e.edge("not told: in a LOSS, third", () -> e.fault(SEEN + "loss x a |c 1;", 3));
        e.edge("not told: in a WAY", () -> e.fault(SEEN + "way |y honest;", 3));
        e.edge("not told: in a set", () -> e.fault(SEEN + "way x set none |c;", 3));
        e.edge("not told: in a WEIGHT", () -> e.fault(SEEN + "weight |y 1;", 3));
        e.edge("not told: in a chair", () -> e.fault(SEEN + "rule most chair |y;", 3));
        e.edge("not told: in a need", () -> e.fault(SEEN + "rule need 1 |c else a;", 3));
        e.edge("not told: in an else", () -> e.fault(SEEN + "rule need 1 a else |c;", 3));
        e.edge("of the other sort: in a LOSS, second", () -> e.fault(SEEN + "loss a |x 1;", 3));
        e.edge("of the other sort: in a LOSS behind a VOTER", () -> e.fault(SEEN + "loss x |x a 1;", 3));
        e.edge("of the other sort: in a LOSS, third", () -> e.fault(SEEN + "loss x a |x 1;", 3));
        e.edge("of the other sort: in a WAY", () -> e.fault(SEEN + "way |a honest;", 3));
        e.edge("of the other sort: in a set", () -> e.fault(SEEN + "way x set |x a;", 3));
        e.edge("of the other sort: in a WEIGHT", () -> e.fault(SEEN + "weight |b 1;", 3));
        e.edge("of the other sort: in a chair", () -> e.fault(SEEN + "rule most chair |b;", 3));
        e.edge("of the other sort: in a need", () -> e.fault(SEEN + "rule need 1 |x else a;", 3));
        e.edge("of the other sort: in an else", () -> e.fault(SEEN + "rule need 1 a else |x;", 3));
    }

    private static void tooMany(Edges e) {
        e.says(4, "4 a fourth TRUTH, an eighth VOTER, a TRUTH behind another LINE (at its first WORD)");
        e.edge("a fourth TRUTH", () -> e.fault(THREE_TRUTHS + "|truth d 1;", 4));
        e.edge("a fourth TRUTH behind blanks", () -> e.fault(THREE_TRUTHS + " \n |truth d 1;", 4));
        e.edge("a fourth TRUTH whose NAME is told twice", () -> e.fault(THREE_TRUTHS + "|truth a 1;", 4));
        e.edge("a fourth TRUTH though three do not add to 20", () -> e.fault(
            "truth a 5;truth b 5;truth c 5;|truth d 5;", 4));
        e.edge("a fourth TRUTH of its first WORD alone", () -> e.fault(THREE_TRUTHS + "|truth", 4));
        String seven = Examples.alike(TWO, 7, "2 10 10 20 0");
        e.edge("an eighth VOTER", () -> e.fault(seven + "|voter w sees 2 10 10 20 0;", 4));
        e.edge("an eighth VOTER behind other LINES", () -> e.fault(seven + "rule most;weight p 1; |voter w sees 2;", 4));
        e.edge("an eighth VOTER whose NAME is told twice", () -> e.fault(seven + "|voter p sees 2;", 4));
        e.edge("an eighth VOTER of its first WORD alone", () -> e.fault(seven + "|voter", 4));
        e.edge("a weight of the seventh VOTER comes", () -> e.lines(seven + "weight v 1;", 10));
    }

    private static void behindAnother(Edges e) {
        e.says(4, "a TRUTH behind another LINE (at its first WORD)");
        String[] others = {"voter x sees 2 10 10 20 0;", "loss a b 1;", "rule most;", "rule need 1 a else b;"};
        for (String other : others) {
            e.edge("behind " + other, () -> e.fault(TWO + other + "|truth c 1;", 4));
        }
        e.edge("behind a WAY", () -> e.fault(SEEN + "way x plain;|truth c 1;", 4));
        e.edge("behind a WEIGHT", () -> e.fault(SEEN + "weight x 1;|truth c 1;", 4));
        e.edge("one told twice", () -> e.fault(SEEN + "|truth a 5;", 4));
        e.edge("a third one, though there could be three", () -> e.fault(SEEN + "|truth c 5;", 4));
    }

    private static void truths(Edges e) {
        e.says(4, "TRUTHS fewer than 2, or not adding to 20 (at the first WORD of the LINE behind them).");
        for (String key : new String[] {"voter", "loss", "way", "weight", "rule"}) {
            e.edge("none ahead of " + key, () -> e.fault("|" + key + " x", 4));
            e.edge("one ahead of " + key, () -> e.fault("truth a 5;|" + key + " x", 4));
            e.edge("two that add to 19 ahead of " + key, () -> e.fault("truth a 5;truth b 14; |" + key + " x", 4));
            e.edge("two that add to 21 ahead of " + key, () -> e.fault("truth a 5;truth b 16;\n|" + key, 4));
            e.edge("three that add to 40 ahead of " + key, () -> e.fault(
                "truth a 10;truth b 15;truth c 15;|" + key, 4));
        }
        e.edge("two that add to 38", () -> e.fault("truth a 19;truth b 19;|voter x sees 2;", 4));
        e.edge("three that add to 3", () -> e.fault("truth a 1;truth b 1;truth c 1;|voter x sees 2;", 4));
        e.edge("none ahead of blanks and a LINE", () -> e.fault(" \n|rule most;", 4));
        e.edge("TRUTHS of the MATTER before do not count", () -> {
            LongTable x = Check.with(SEEN);
            e.due("matter()", Check.matter(x, "voter y sees 2 10 10 20 0;"), -1);
            e.due("fault()", x.fault(), 4);
        });
    }

    private static void kinds(Edges e) {
        e.says(5, "The kind of the FAULT of the latest matter()");
        String[] texts = {"truth", "truth a 0;", "truth a 1;truth a 19;", "voter"};
        for (int kind = 1; kind <= 4; kind++) {
            int due = kind;
            e.edge("kind " + kind, () -> {
                LongTable x = new LongTable();
                Check.matter(x, texts[due - 1]);
                e.due("fault()", x.fault(), due);
                e.due("fault() again", x.fault(), due);
            });
        }
        e.edge("the latest one, each behind another", () -> {
            LongTable x = new LongTable();
            for (int i = 0; i < 16; i++) {
                Check.matter(x, texts[i * 5 % 4]);
                e.due("fault()", x.fault(), 1 + i * 5 % 4);
            }
        });
        e.edge("no call but matter() changes it", () -> {
            LongTable x = Check.with(Examples.ONE);
            Check.matter(x, "truth a 0;");
            x.decided();
            x.known();
            x.inTurns();
            x.says();
            x.cliff();
            x.guess();
            x.end(-1);
            x.feed(0, 0, 0, 0, 0);
            x.count(9);
            x.settle();
            e.dueThrow("parts(0)", () -> x.parts(0));
            e.due("fault()", x.fault(), 2);
        });
        e.edge("of an empty tape", () -> {
            LongTable x = Check.with(Examples.ONE);
            x.matter();
            e.due("fault()", x.fault(), 1);
        });
    }

    private static void aheadOfAny(Edges e) {
        e.says(5, "0 without one and ahead of any.");
        e.edge("ahead of any", () -> e.due("fault()", new LongTable().fault(), 0));
        e.edge("ahead of any, with bytes on the tape", () -> {
            LongTable x = new LongTable();
            Check.tape(x, "truth a 0;");
            e.due("fault()", x.fault(), 0);
            x.guess();
            e.due("fault() behind guess()", x.fault(), 0);
        });
        e.edge("without one", () -> e.due("fault()", Check.with(SEEN).fault(), 0));
        e.edge("without one, behind one of each kind", () -> {
            LongTable x = new LongTable();
            for (String text : new String[] {"truth", "truth a 0;", "truth a 1;truth a 19;", "voter"}) {
                Check.matter(x, text);
                Check.tell(x, SEEN);
                e.due("fault()", x.fault(), 0);
            }
        });
    }
}
