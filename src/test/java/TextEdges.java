/** Edges of promise 4: what is taken as a MATTER, sentence by sentence of the terms. */
final class TextEdges {
    private static final String TWO = Examples.TWO;
    private static final String SEEN = Examples.SEEN;

    private TextEdges() {
    }

    static void all(Edges e) {
        length(e);
        blanks(e);
        words(e);
        numbers(e);
        truths(e);
        voters(e);
        losses(e);
        ways(e);
        weights(e);
        rules(e);
        names(e);
        numbered(e);
        plain(e);
        likeLines(e);
        matter(e);
    }

    private static void length(Edges e) {
        e.says(4, "A MATTER is a text of at most 700 bytes");
        e.edge("700 bytes", () -> e.lines(Examples.padded(SEEN, 700), 3));
        e.edge("701 bytes", () -> e.faultAt(Examples.padded(SEEN, 701), 700, 1));
        e.edge("740 bytes", () -> e.faultAt(Examples.padded(SEEN, 740), 700, 1));
        e.edge("700 bytes with the last stop at 699", () -> e.lines(
            Examples.padded(SEEN + "weight x 1", 699) + ";", 4));
        e.edge("701 bytes with the last stop at 700", () -> e.faultAt(
            Examples.padded(SEEN + "weight x 1", 700) + ";", 700, 1));
        e.edge("the least one has 46 bytes", () -> e.lines("truth a 1;truth b 19;voter x sees 2 0 20 0 20;", 3));
    }

    private static void blanks(Edges e) {
        e.says(4, "TOKENS, with blanks (32, 10) between them or not");
        e.edge("none between a stop and a WORD, a NUMBER and a stop", () -> e.lines(SEEN, 3));
        e.edge("some, of both sorts, everywhere", () -> e.lines(
            " \n truth \n a\n5 ; \ntruth  b\n\n15\n;voter x sees\n2 10 10\n20 0 ;\n \n", 3));
        e.edge("10 alone between all TOKENS", () -> e.lines(SEEN.replace(' ', '\n'), 3));
        for (int sign : new int[] {0, 9, 11, 12, 13, 31, 33, 42, 127, 128, 138, 160, 255}) {
            e.edge(sign + " is no blank, but no TOKEN", () -> {
                e.fault("truth|" + (char) sign + "a 5;", 1);
                e.fault("|" + (char) sign + SEEN, 1);
                e.fault(SEEN + "|" + (char) sign, 1);
            });
        }
    }

    private static void words(Edges e) {
        e.says(4, "WORDS: small letters, 1 to 6");
        e.edge("one letter, a to z", () -> e.lines("truth a 5;truth z 15;voter m sees 2 10 10 20 0;", 3));
        e.edge("six letters", () -> e.lines("truth abcdef 5;truth uvwxyz 15;voter zzzzzz sees 2 10 10 20 0;", 3));
        e.edge("seven letters are none", () -> e.fault("truth |abcdefg 5;", 1));
        e.edge("seven letters are none, ahead of a stop", () -> e.fault(SEEN + "|weights;", 1));
        e.edge("forty letters are none", () -> e.fault("truth |" + "a".repeat(40) + " 5;", 1));
        e.edge("six letters of which five are told are another WORD", () -> e.lines(
            "truth truthe 5;truth truth" + "z 15;voter voters sees 2 10 10 20 0;way voters set truthz truthe;", 4));
        for (char sign : new char[] {'`', '{', 'A', 'Z', '@', '[', '_', '-', (char) 225}) {
            e.edge((int) sign + " is no small letter", () -> e.fault("truth |" + sign + " 5;", 1));
            e.edge((int) sign + " ends a WORD", () -> e.fault("truth a|" + sign + " 5;", 1));
        }
        e.says(4, "(A WORD, NUMBER goes on as long as small letters and digits do; what is not as told is no TOKEN.)");
        e.edge("letters and a digit", () -> e.fault("truth |a5;", 1));
        e.edge("a digit and letters", () -> e.fault("truth a |5a;", 1));
        e.edge("a WORD of a LINE and a digit", () -> e.fault("|truth1 a 5;", 1));
        e.edge("sees and its NUMBER", () -> e.fault(TWO + "voter x |sees2 10 10 20 0;", 1));
        e.edge("two NUMBERS in one", () -> e.fault(TWO + "voter x sees 2 |1010 20 0;", 1));
        e.edge("shy and its NUMBER", () -> e.fault(SEEN + "way x |shy1;", 1));
        e.edge("a digit, a letter, a digit", () -> e.fault("truth a |1b1;", 1));
    }

    private static void numbers(Edges e) {
        e.says(4, "NUMBERS: 1 or 2 digits; ; .");
        e.edge("one digit", () -> e.lines("truth a 1;truth b 19;voter x sees 2 0 20 9 11;", 3));
        e.edge("two digits, the first one 0", () -> e.lines("truth a 05;truth b 15;voter x sees 02 00 20 09 11;", 3));
        e.edge("three digits are none", () -> e.fault("truth a |123;", 1));
        e.edge("three digits are none, though of a small number", () -> e.fault("truth a |005;", 1));
        e.edge("ten digits are none, though they wrap around to a small number", () -> e.fault("truth a |4294967301;", 1));
        e.edge("twenty digits are none", () -> e.fault("truth a |18446744073709551621;", 1));
        e.edge("the sign ahead of 0 is no digit", () -> e.fault("truth a |/;", 1));
        e.edge("the sign behind 9 is no digit", () -> e.fault("truth a |:;", 1));
        e.edge("a minus is no digit", () -> e.fault(SEEN + "weight x |-1;", 1));
        e.edge("a stop is a TOKEN by itself", () -> e.lines("truth a 5 ; truth b 15 ;voter x sees 2 10 10 20 0 ;", 3));
        e.edge("a dot ends no LINE", () -> e.fault(TWO + "voter x sees 2 10 10 20 0|.", 1));
        e.edge("a dot ends no text", () -> e.fault(SEEN + "|.", 1));
        e.edge("a comma is none", () -> e.fault("truth a|, 5;", 1));
    }

    private static void truths(Edges e) {
        e.says(4, "TEXT: { LINE ; }");
        e.edge("a LINE without its stop", () -> e.fault(TWO + "voter x sees 2 10 10 20 0|", 1));
        e.edge("a LINE behind a LINE without a stop", () -> e.fault("truth a 5 |truth b 15;", 1));
        e.edge("a stop without a LINE ahead of all", () -> e.fault("|;" + SEEN, 1));
        e.edge("a stop without a LINE behind all", () -> e.fault(SEEN + "|;", 1));
        e.says(4, "LINE: 'truth' NAME NUMBER (its chance in twentieths, 1 to 19; 2 or 3 TRUTHS, ahead of any other LINE,"
            + " adding to 20)");
        e.edge("chances 1 and 19", () -> e.lines("truth a 1;truth b 19;voter x sees 2 10 10 20 0;", 3));
        e.edge("chance 0", () -> e.fault("truth a |0;truth b 20;", 2));
        e.edge("chance 20", () -> e.fault("truth a |20;", 2));
        e.edge("chance 20 of the second one", () -> e.fault("truth a 1;truth b |20;", 2));
        e.edge("chance 99", () -> e.fault("truth a |99;", 2));
        e.edge("two", () -> {
            e.lines(SEEN, 3);
            e.due("count(0)", Check.with(SEEN).count(0), 2);
        });
        e.edge("three, 1, 1 and 18", () -> {
            String three = "truth a 1;truth b 1;truth c 18;voter x sees 2 10 10 20 0 0 20;";
            e.lines(three, 4);
            e.due("count(0)", Check.with(three).count(0), 3);
        });
        e.edge("none", () -> e.fault("|voter x sees 2;", 4));
        e.edge("one", () -> e.fault("truth a 19;|voter x sees 2 10 10;", 4));
        e.edge("four", () -> e.fault("truth a 5;truth b 5;truth c 5;|truth d 5;", 4));
        e.edge("two that add to 19", () -> e.fault("truth a 5;truth b 14;|voter x sees 2;", 4));
        e.edge("two that add to 21", () -> e.fault("truth a 5;truth b 16;|voter x sees 2;", 4));
        e.edge("three that add to 19", () -> e.fault("truth a 5;truth b 5;truth c 9;|voter x sees 2;", 4));
        e.edge("three that add to 21", () -> e.fault("truth a 5;truth b 5;truth c 11;|voter x sees 2;", 4));
        e.edge("three of which two add to 20", () -> e.fault("truth a 5;truth b 15;truth c 1;|voter x sees 2;", 4));
        e.edge("two, and the third behind a LOSS", () -> e.fault(TWO + "loss a b 1;|truth c 1;", 4));
    }

    private static void voters(Edges e) {
        e.says(4, "'voter' NAME 'sees' NUMBER (2 or 3 SIGNS) and for each TRUTH as many NUMBERS (0 to 20 each, adding to 20:"
            + " how likely each SIGN is under it)");
        e.edge("2 SIGNS", () -> e.due("signs(0)", Check.with(SEEN).signs(0), 2));
        e.edge("3 SIGNS", () -> e.due("signs(0)", Check.with(TWO + "voter x sees 3 1 2 17 0 0 20;").signs(0), 3));
        e.edge("1 SIGN", () -> e.fault(TWO + "voter x sees |1 20 20;", 2));
        e.edge("4 SIGNS", () -> e.fault(TWO + "voter x sees |4 5 5 5 5 5 5 5 5;", 2));
        e.edge("0 SIGNS", () -> e.fault(TWO + "voter x sees |0;", 2));
        e.edge("20 SIGNS", () -> e.fault(TWO + "voter x sees |20;", 2));
        e.edge("0 and 20", () -> e.lines(TWO + "voter x sees 3 0 20 0 0 0 20;", 3));
        e.edge("21", () -> e.fault(TWO + "voter x sees 2 |21 0 20 0;", 2));
        e.edge("adding to 19", () -> e.fault(TWO + "voter x sees 2 10 |9 10 10;", 2));
        e.edge("adding to 21", () -> e.fault(TWO + "voter x sees 2 10 |11 10 10;", 2));
        e.edge("adding to 20 under the second TRUTH too", () -> e.fault(TWO + "voter x sees 2 10 10 10 |9;", 2));
        e.edge("adding to 20 under the third TRUTH too", () -> e.fault(
            "truth a 5;truth b 5;truth c 10;voter x sees 2 10 10 10 10 10 |11;", 2));
        e.edge("under each, not all together", () -> e.fault(TWO + "voter x sees 2 9 |10 11 10;", 2));
        e.edge("for each of three TRUTHS", () -> e.fault(
            "truth a 5;truth b 5;truth c 10;voter x sees 2 10 10 10 10|;", 1));
        e.edge("one too few", () -> e.fault(TWO + "voter x sees 2 10 10 20|;", 1));
        e.edge("one too many", () -> e.fault(TWO + "voter x sees 2 10 10 20 0 |0;", 1));
        e.edge("without its sees", () -> e.fault(TWO + "voter x |2 10 10 20 0;", 1));
        e.edge("without a NAME", () -> e.fault(TWO + "voter |sees 2 10 10 20 0;", 1));
        e.says(4, "1 to 7 VOTERS");
        e.edge("none", () -> e.fault(TWO + "loss a b 1;|", 1));
        e.edge("one", () -> e.lines(SEEN, 3));
        e.edge("seven", () -> e.lines(Examples.alike(TWO, 7, "2 10 10 20 0"), 9));
        e.edge("eight", () -> e.fault(Examples.alike(TWO, 7, "2 10 10 20 0") + "|voter w sees 2 10 10 20 0;", 4));
    }

    private static void losses(Edges e) {
        e.says(4, "'loss' [ VOTER ] TRUTH TRUTH NUMBER (0 to 50: what it costs if the first is so and the second one decided:"
            + " COMMON without VOTER, else that one's own for these two; where none is told of one's own, the COMMON one is)");
        e.edge("0", () -> e.due("lost()", Check.with(Examples.ONE + "loss a b 0;").lost(), 0));
        e.edge("50", () -> e.due("lost()", Check.with(Examples.ONE + "loss a b 50;way x set b b;").lost(), 100 * 50));
        e.edge("51", () -> e.fault(SEEN + "loss a b |51;", 2));
        e.edge("99", () -> e.fault(SEEN + "loss a b |99;", 2));
        e.edge("51 of a VOTER", () -> e.fault(SEEN + "loss x a b |51;", 2));
        e.edge("the first is so, the second one decided", () -> {
            String text = Examples.ONE + "way x set b b;";
            e.due("lost() by a b", Check.with(text + "loss a b 7;").lost(), 700);
            e.due("lost() by b a", Check.with(text + "loss b a 7;").lost(), 100);
        });
        e.edge("a TRUTH that is so and decided", () -> e.due("lost()", Check.with(
            Examples.ONE + "way x set b b;loss b b 3;loss a a 50;").lost(), 300 * 3 + 100));
        e.edge("COMMON ahead of any VOTER", () -> e.due("lost()", Check.with(
            TWO + "loss a b 7;voter x sees 2 10 10 4 16;way x set b b;").lost(), 700));
        e.edge("a VOTER's own is not COMMON", () -> e.due("lost()", Check.with(
            Examples.ONE + "way x set b b;loss x a b 7;").lost(), 100));
        // With SIGN 0 a is told to cost b's 60, b to cost a's 50 times as much as the LOSS of a b.
        e.edge("a VOTER's own counts for the VOTER", () -> e.due("vote(0, 0)", Check.with(
            Examples.ONE + "loss x a b 2;").vote(0, 0), 0));
        e.edge("the COMMON one, where none of one's own is told", () -> e.due("vote(0, 0)", Check.with(
            Examples.ONE + "loss a b 2;").vote(0, 0), 0));
        e.edge("one's own of 0 is told", () -> e.due("vote(0, 0)", Check.with(
            Examples.ONE + "loss a b 50;loss x a b 0;").vote(0, 0), 1));
        e.edge("one's own for these two alone", () -> e.due("vote(0, 0)", Check.with(
            Examples.ONE + "loss a b 50;loss x b a 2;").vote(0, 0), 0));
        e.edge("another VOTER's own is not one's own", () -> e.due("vote(0, 0)", Check.with(
            Examples.ONE + "voter y sees 2 10 10 10 10;loss y a b 50;").vote(0, 0), 1));
        e.edge("a COMMON one told behind counts, too", () -> e.due("vote(0, 0)", Check.with(
            Examples.ONE + "loss x b a 1;loss a b 2;").vote(0, 0), 0));
        e.edge("without its NUMBER", () -> e.fault(SEEN + "loss a b|;", 1));
        e.edge("with one TRUTH alone", () -> e.fault(SEEN + "loss a |1;", 1));
        e.edge("with a VOTER and one TRUTH alone", () -> e.fault(SEEN + "loss x a |1;", 1));
    }

    private static void ways(Edges e) {
        e.says(4, "'way' VOTER WAY");
        e.edge("each WAY", () -> e.lines(SEEN + "way x honest;way x plain;way x shy 5;way x set a none;", 7));
        e.edge("no other WAY", () -> e.fault(SEEN + "way x |none;", 1));
        e.edge("a NAME is no WAY", () -> e.fault(SEEN + "way x |a;", 1));
        e.edge("no WAY at all", () -> e.fault(SEEN + "way x|;", 1));
        e.says(4, "WAY: 'honest' | 'plain' | 'shy' NUMBER (1 to 20) | 'set' and for each SIGN a TRUTH or 'none'");
        e.edge("shy 1 and 20", () -> e.lines(SEEN + "way x shy 1;way x shy 20;", 5));
        e.edge("shy 0", () -> e.fault(SEEN + "way x shy |0;", 2));
        e.edge("shy 21", () -> e.fault(SEEN + "way x shy |21;", 2));
        e.edge("shy without its NUMBER", () -> e.fault(SEEN + "way x shy|;", 1));
        e.edge("honest with a NUMBER", () -> e.fault(SEEN + "way x honest |1;", 1));
        e.edge("plain with a TRUTH", () -> e.fault(SEEN + "way x plain |a;", 1));
        e.edge("set of two SIGNS, all none", () -> e.lines(SEEN + "way x set none none;", 4));
        e.edge("set with one too few", () -> e.fault(SEEN + "way x set a|;", 1));
        e.edge("set with one too many", () -> e.fault(SEEN + "way x set a b |none;", 1));
        e.edge("set of three SIGNS", () -> e.lines(TWO + "voter x sees 3 1 2 17 0 0 20;way x set a none b;", 4));
        e.edge("set of three SIGNS with two", () -> e.fault(TWO + "voter x sees 3 1 2 17 0 0 20;way x set a none|;", 1));
        e.edge("set with a VOTER", () -> e.fault(SEEN + "way x set a |x;", 3));
        e.edge("set with a NUMBER", () -> e.fault(SEEN + "way x set |9 9;", 1));
    }

    private static void weights(Edges e) {
        e.says(4, "'weight' VOTER NUMBER (0 to 9)");
        e.edge("0 and 9", () -> e.lines(SEEN + "weight x 0;weight x 9;", 5));
        e.edge("10", () -> e.fault(SEEN + "weight x |10;", 2));
        e.edge("99", () -> e.fault(SEEN + "weight x |99;", 2));
        e.edge("of a TRUTH", () -> e.fault(SEEN + "weight |a 1;", 3));
        e.edge("without its NUMBER", () -> e.fault(SEEN + "weight x|;", 1));
        e.edge("with two NUMBERS", () -> e.fault(SEEN + "weight x 1 |1;", 1));
        e.edge("9 reaches a need of 9", () -> e.due("right()", Check.with(
            Examples.ONE + "weight x 9;rule need 9 b else a;").right(), 300));
        e.edge("9 does not reach a need of 10", () -> e.due("right()", Check.with(
            Examples.ONE + "weight x 9;rule need 10 b else a;").right(), 100));
        e.edge("0 does not reach a need of 1", () -> e.due("right()", Check.with(
            Examples.ONE + "weight x 0;rule need 1 b else a;").right(), 100));
    }

    private static void rules(Edges e) {
        e.says(4, "'rule' RULE");
        e.edge("no RULE at all", () -> e.fault(SEEN + "rule|;", 1));
        e.edge("no other RULE", () -> e.fault(SEEN + "rule |chair x;", 1));
        e.edge("a NAME is no RULE", () -> e.fault(SEEN + "rule |a;", 1));
        e.says(4, "RULE: 'most' [ 'chair' VOTER ] | 'need' NUMBER (1 to 81) TRUTH 'else' TRUTH");
        e.edge("most, and most with a chair", () -> e.lines(SEEN + "rule most;rule most chair x;", 5));
        e.edge("chair without a VOTER", () -> e.fault(SEEN + "rule most chair|;", 1));
        e.edge("chair of a TRUTH", () -> e.fault(SEEN + "rule most chair |a;", 3));
        e.edge("most with a NAME", () -> e.fault(SEEN + "rule most |x;", 1));
        e.edge("need 1 and 81", () -> e.lines(SEEN + "rule need 1 a else b;rule need 81 a else b;", 5));
        e.edge("need 0", () -> e.fault(SEEN + "rule need |0 a else b;", 2));
        e.edge("need 82", () -> e.fault(SEEN + "rule need |82 a else b;", 2));
        e.edge("need 99", () -> e.fault(SEEN + "rule need |99 a else b;", 2));
        e.edge("the same TRUTH twice", () -> e.due("right()", Check.with(
            Examples.ONE + "rule need 1 a else a;").right(), 100));
        e.edge("without its else", () -> e.fault(SEEN + "rule need 1 a |b;", 1));
        e.edge("without a second TRUTH", () -> e.fault(SEEN + "rule need 1 a else|;", 1));
        e.edge("with a VOTER for a TRUTH", () -> {
            e.fault(SEEN + "rule need 1 |x else b;", 3);
            e.fault(SEEN + "rule need 1 a else |x;", 3);
        });
        e.edge("with a chair", () -> e.fault(SEEN + "rule need 1 a else b |chair x;", 1));
    }

    private static void names(Edges e) {
        e.says(4, "NAME: a WORD, none of truth, voter, sees, loss, way, weight, rule, honest, plain, shy, set, none, most,"
            + " chair, need, else; told once.");
        String[] keys = {"truth", "voter", "sees", "loss", "way", "weight", "rule", "honest", "plain", "shy", "set", "none",
            "most", "chair", "need", "else"};
        for (String key : keys) {
            e.edge(key + " is none", () -> {
                e.fault("truth |" + key + " 5;", 1);
                e.fault(TWO + "voter |" + key + " sees 2 10 10 20 0;", 1);
            });
            e.edge(key + " less its last letter is one", () -> {
                String name = key.substring(0, key.length() - 1);
                e.lines("truth " + name + " 5;truth b 15;voter x sees 2 10 10 20 0;loss " + name + " b 1;", 4);
            });
        }
        e.edge("a NUMBER is none", () -> e.fault("truth |5 5;", 1));
        e.edge("of two TRUTHS", () -> e.fault("truth a 5;truth |a 15;", 3));
        e.edge("of a TRUTH and a VOTER", () -> e.fault(TWO + "voter |a sees 2 10 10 20 0;", 3));
        e.edge("of two VOTERS", () -> e.fault(SEEN + "voter |x sees 2 10 10 20 0;", 3));
        e.edge("a and aa are two", () -> e.lines("truth a 5;truth aa 15;voter aaa sees 2 10 10 20 0;", 3));
        e.says(4, "VOTER, TRUTH: a NAME told ahead of such a one.");
        e.edge("a VOTER told behind", () -> e.fault(TWO + "weight |x 1;voter x sees 2 10 10 20 0;", 3));
        e.edge("a VOTER told right ahead", () -> e.lines(SEEN + "weight x 1;", 4));
        e.edge("a NAME of the MATTER before", () -> {
            LongTable x = Check.with(SEEN);
            e.due("matter()", Check.matter(x, "truth c 5;truth d 15;voter y sees 2 10 10 20 0;weight x 1;"), -1 - 54);
            e.due("fault()", x.fault(), 3);
        });
        e.edge("the NAMES of the MATTER before are free", () -> {
            LongTable x = Check.with(SEEN);
            e.due("matter()", Check.matter(x, "truth x 5;truth y 15;voter a sees 2 10 10 20 0;"), 3);
        });
    }

    private static void numbered(Edges e) {
        e.says(4, "TRUTHS, VOTERS, SIGNS are numbered as told, from 0.");
        e.edge("TRUTHS, not by their letters", () -> {
            LongTable x = Check.with("truth z 5;truth a 15;voter x sees 2 10 10 4 16;");
            Check.tape(x, 0);
            e.due("parts(0)", x.parts(0), 50);
        });
        e.edge("VOTERS, not by their letters", () -> {
            LongTable x = Check.with(TWO + "voter z sees 2 10 10 4 16;voter y sees 3 1 1 18 1 1 18;");
            e.due("signs(0)", x.signs(0), 2);
            e.due("signs(1)", x.signs(1), 3);
        });
        e.edge("SIGNS under each TRUTH", () -> {
            LongTable x = Check.with(TWO + "voter x sees 3 1 2 17 4 5 11;");
            int[] like = {1, 2, 17, 4, 5, 11};
            for (int i = 0; i < 6; i++) {
                Check.tape(x, i % 3);
                int t = i / 3;
                e.due("parts(" + t + ") with SIGN " + i % 3, x.parts(t), (t == 0 ? 5 : 15) * like[i]);
            }
        });
        e.edge("the third TRUTH is 2", () -> {
            LongTable x = Check.with(Examples.PLAIN_SIGHT);
            Check.tape(x, 2);
            e.due("parts(2)", x.parts(2), 200);
        });
    }

    private static void plain(Edges e) {
        e.says(4, "Plain: a LOSS is 0 for a TRUTH decided that is so, else 1; WAYS are honest; WEIGHTS 1; the RULE is most.");
        e.edge("LOSSES", () -> e.due("lost()", Check.with(Examples.PLAIN_SIGHT + "way x set b c c;").lost(), 10 * 20));
        e.edge("WAYS", () -> {
            // 60 of 110 speak for b with SIGN 0, which is likelier under a.
            e.due("vote(0, 0)", Check.with(Examples.ONE).vote(0, 0), 1);
        });
        e.edge("WEIGHTS", () -> {
            String three = Examples.alike("truth a 10;truth b 10;", 3, "2 20 0 0 20");
            e.due("right()", Check.with(three + "rule need 3 b else a;").right(), 160000);
            e.due("right()", Check.with(three + "rule need 4 b else a;").right(), 80000);
        });
        e.edge("the RULE", () -> {
            LongTable x = Check.with(Examples.alike("truth a 10;truth b 10;", 3, "2 20 0 0 20"));
            Check.tape(x, 0, 1, 1);
            e.due("decided()", x.decided(), 1);
            Check.tape(x, 0, 0, 1);
            e.due("decided()", x.decided(), 0);
        });
        e.edge("anew with each MATTER", () -> {
            LongTable x = new LongTable();
            String told = "loss a b 9;loss x b a 9;way x set a a;weight x 0;";
            String[] others = {Examples.ONE + told + "rule need 1 a else a;", Examples.ONE + told + "rule most chair x;",
                Examples.PLAIN_SIGHT + "loss a b 9;loss a c 7;loss x b a 9;way x set a a a;weight x 0;rule need 1 c else c;"};
            // Twice each, as it is free where the MATTER is held.
            for (String other : others) {
                for (int i = 0; i < 4; i++) {
                    Check.tell(x, i < 2 ? other : Examples.ONE);
                    if (i >= 2) {
                        e.due("lost()", x.lost(), 100);
                        e.due("vote(0, 0)", x.vote(0, 0), 1);
                    }
                }
                Check.tell(x, Examples.ONE + "rule need 1 b else a;");
                e.due("right()", x.right(), 300);
            }
        });
        e.edge("no chair anew with each MATTER", () -> {
            LongTable x = new LongTable();
            String two = Examples.alike("truth a 10;truth b 10;", 2, "2 20 0 0 20") + "way p set a a;way q set b b;";
            for (int i = 0; i < 6; i++) {
                Check.tell(x, two + (i % 4 < 2 ? "rule most chair q;" : ""));
                e.due("comes(0, 1)", x.comes(0, 1), i % 4 < 2 ? 4000 : 0);
            }
        });
    }

    private static void likeLines(Edges e) {
        e.says(4, "of like LINES the later one counts.");
        String set = Examples.ONE + "way x set b b;";
        e.edge("COMMON LOSSES", () -> e.due("lost()", Check.with(set + "loss a b 9;loss b a 4;loss a b 2;").lost(), 200));
        e.edge("own LOSSES", () -> e.due("vote(0, 0)", Check.with(
            Examples.ONE + "loss x a b 1;loss x a b 2;").vote(0, 0), 0));
        e.edge("a COMMON LOSS and an own one are not like", () -> {
            e.due("lost()", Check.with(set + "loss a b 3;loss x a b 9;").lost(), 300);
            e.due("vote(0, 0)", Check.with(Examples.ONE + "loss x a b 2;loss a b 1;").vote(0, 0), 0);
        });
        e.edge("WAYS", () -> e.due("vote(0, 0)", Check.with(set + "way x honest;way x set a b;").vote(0, 0), 0));
        e.edge("set and then honest", () -> e.due("vote(0, 0)", Check.with(
            Examples.ONE + "way x set a a;way x honest;").vote(0, 0), 1));
        e.edge("shy and then shy", () -> e.due("vote(0, 0)", Check.with(
            Examples.ONE + "way x shy 20;way x shy 1;").vote(0, 0), 1));
        e.edge("WEIGHTS", () -> e.due("right()", Check.with(
            set + "weight x 3;weight x 2;rule need 3 b else a;").right(), 100));
        e.edge("a need and then most", () -> e.due("right()", Check.with(
            set + "rule need 9 b else a;rule most;").right(), 300));
        e.edge("most and then a need", () -> e.due("right()", Check.with(
            set + "rule most;rule need 9 b else a;").right(), 100));
        e.edge("a need and then a need", () -> e.due("right()", Check.with(
            set + "rule need 1 b else a;rule need 2 b else a;").right(), 100));
        String two = Examples.alike("truth a 10;truth b 10;", 2, "2 20 0 0 20") + "way p set a a;way q set b b;";
        e.edge("a chair and then most without", () -> e.due("comes(1, 0)", Check.with(
            two + "rule most chair q;rule most;").comes(1, 0), 4000));
        e.edge("a chair and then another", () -> e.due("comes(0, 1)", Check.with(
            two + "rule most chair p;rule most chair q;").comes(0, 1), 4000));
    }

    private static void matter(Edges e) {
        e.says(4, "The tape (empty then, with a FAULT, too, here and below) is the MATTER now");
        e.edge("empty behind a MATTER", () -> {
            LongTable x = new LongTable();
            Check.tell(x, SEEN);
            e.due("count(2)", x.count(2), 0);
        });
        e.edge("empty behind a FAULT", () -> {
            LongTable x = new LongTable();
            Check.matter(x, "truth a 0;");
            e.due("count(2)", x.count(2), 0);
        });
        e.edge("empty behind a FAULT of an empty tape, and again", () -> {
            LongTable x = new LongTable();
            e.due("matter()", x.matter(), -1);
            e.due("matter()", x.matter(), -1);
            e.due("fault()", x.fault(), 1);
        });
        e.edge("a full tape of 740", () -> {
            LongTable x = new LongTable();
            e.due("matter()", Check.matter(x, Examples.padded(SEEN, 740)), -701);
            e.due("count(2)", x.count(2), 0);
            e.due("feed", x.feed(0, 0, 0, 0, 0), 20);
        });
        e.edge("the one before is no more", () -> {
            LongTable x = Check.with(Examples.PLAIN_SIGHT);
            Check.tell(x, Examples.THREE);
            e.due("count(0)", x.count(0), 2);
            e.due("count(1)", x.count(1), 3);
            e.due("signs(0)", x.signs(0), 2);
            e.due("lost()", x.lost(), 25000);
        });
        e.says(4, "how many LINES");
        e.edge("the fewest, 3", () -> e.lines(SEEN, 3));
        e.edge("the most, 68 of 697 bytes", () -> {
            String text = SEEN + "rule most;".repeat(65);
            e.due("bytes", text.length(), 697);
            e.lines(text, 68);
        });
        e.edge("like LINES too", () -> e.lines(SEEN + "weight x 1;weight x 1;", 5));
        e.says(4, "-1 less the place of a FAULT");
        e.edge("place 0", () -> e.due("matter()", Check.matter(new LongTable(), "a"), -1));
        e.edge("place 1", () -> e.due("matter()", Check.matter(new LongTable(), " a"), -2));
        e.edge("place 699", () -> e.due("matter()", Check.matter(new LongTable(), " ".repeat(699) + "a"), -700));
        e.edge("place 700", () -> e.due("matter()", Check.matter(new LongTable(), " ".repeat(700) + "a"), -701));
        e.says(4, "it stays");
        e.edge("the MATTER now, behind a FAULT", () -> {
            LongTable x = Check.with(Examples.THREE);
            Check.matter(x, Examples.PLAIN_SIGHT + "weight x 10;");
            e.due("fault()", x.fault(), 2);
            e.due("count(0)", x.count(0), 2);
            e.due("count(1)", x.count(1), 3);
            e.due("right()", x.right(), 135000);
        });
        e.edge("behind FAULT upon FAULT", () -> {
            LongTable x = Check.with(Examples.THREE);
            for (int i = 0; i < 5; i++) {
                e.due("matter()", Check.matter(x, Examples.KNOWER + "rule"), -1 - Examples.KNOWER.length() - 4);
                e.due("right()", x.right(), 135000);
            }
        });
        e.edge("behind an inTurns() of another MATTER", () -> {
            LongTable x = Check.with(Examples.KNOWER);
            Check.tape(x, 0, 1);
            x.inTurns();
            Check.tell(x, Examples.ONE);
            Check.tell(x, Examples.THREE);
            for (int i = 0; i < 3; i++) {
                Check.matter(x, Examples.PLAIN_SIGHT + "?");
                e.due("right()", x.right(), 135000);
            }
        });
        e.edge("no MATTER, where there was none", () -> {
            LongTable x = new LongTable();
            Check.matter(x, Examples.THREE + "rule");
            e.due("count(0)", x.count(0), 0);
            e.due("all()", x.all(), 0);
            e.due("lost()", x.lost(), 0);
        });
    }
}
