/** MATTERS whose answers are worked out by hand in the tests. */
final class Examples {
    /** Three alike, each right 15 times of 20. */
    static final String THREE = "truth yes 10;truth no 10;voter ann sees 2 15 5 5 15;"
        + "voter bob sees 2 15 5 5 15;voter cy sees 2 15 5 5 15;";
    /** One alone: PARTS with SIGN 0 are 50 and 60, with SIGN 1 50 and 240. */
    static final String ONE = "truth a 5;truth b 15;voter x sees 2 10 10 4 16;";
    /** x knows, y does not. */
    static final String KNOWER = "truth a 10;truth b 10;voter x sees 2 20 0 0 20;voter y sees 3 5 5 10 10 5 5;";
    /** Three TRUTHS, and the SIGN is the TRUTH. */
    static final String PLAIN_SIGHT = "truth a 4;truth b 6;truth c 10;voter x sees 3 20 0 0 0 20 0 0 0 20;";

    /** Two TRUTHS, and one who sees nothing: what any other LINE may stand behind. */
    static final String TWO = "truth a 5;truth b 15;";
    static final String SEEN = TWO + "voter x sees 2 10 10 20 0;";

    /** So many VOTERS p, q, .. behind some TRUTHS, all of whom see the same. */
    static String alike(String truths, int voters, String sees) {
        StringBuilder text = new StringBuilder(truths);
        for (int v = 0; v < voters; v++) {
            text.append("voter ").append(name(v)).append(" sees ").append(sees).append(';');
        }
        return text.toString();
    }

    /** One LINE of each of so many VOTERS: its opening, the NAME and how it goes on. */
    static String each(int voters, String opening, String rest) {
        StringBuilder text = new StringBuilder();
        for (int v = 0; v < voters; v++) {
            text.append(opening).append(' ').append(name(v)).append(' ').append(rest).append(';');
        }
        return text.toString();
    }

    private static char name(int v) {
        return (char) ('p' + v);
    }

    static String padded(String text, int length) {
        return text + " ".repeat(length - text.length());
    }

    private Examples() {
    }
}
