/** Promises 1 to 3: a new object, feed, end. */
public final class TapeTest {
    private static final Check CHECK = new Check();

    public static void main(String[] args) {
        newObject();
        feeds();
        ends();
        bytesInOrder();
        CHECK.end("TapeTest");
    }

    private static void newObject() {
        LongTable x = new LongTable();
        CHECK.due("NONE", LongTable.NONE, -1);
        CHECK.due("count(0)", x.count(0), 0);
        CHECK.due("count(1)", x.count(1), 0);
        CHECK.due("count(2)", x.count(2), 0);
        CHECK.due("end(1) of an empty tape", x.end(1), false);
        CHECK.due("end(0) of an empty tape", x.end(0), true);
    }

    private static void feeds() {
        LongTable x = new LongTable();
        for (int i = 1; i <= 37; i++) {
            CHECK.due("feed " + i, x.feed(i, 0, -1, Integer.MIN_VALUE, Integer.MAX_VALUE), 20 * i);
        }
        CHECK.due("feed 38", x.feed(0, 0, 0, 0, 0), -1);
        CHECK.due("count(2) behind it", x.count(2), 740);
        CHECK.due("end(721)", x.end(721), true);
        CHECK.due("feed behind 721 bytes", x.feed(0, 0, 0, 0, 0), -1);
        CHECK.due("count(2) behind that", x.count(2), 721);
        CHECK.due("end(720)", x.end(720), true);
        CHECK.due("feed behind 720 bytes", x.feed(0, 0, 0, 0, 0), 740);
    }

    private static void ends() {
        LongTable x = new LongTable();
        x.feed(1, 2, 3, 4, 5);
        CHECK.due("end(21)", x.end(21), false);
        CHECK.due("end(-1)", x.end(-1), false);
        CHECK.due("end(MIN)", x.end(Integer.MIN_VALUE), false);
        CHECK.due("end(MAX)", x.end(Integer.MAX_VALUE), false);
        CHECK.due("count(2)", x.count(2), 20);
        CHECK.due("end(20)", x.end(20), true);
        CHECK.due("end(3)", x.end(3), true);
        CHECK.due("end(4) of three", x.end(4), false);
        CHECK.due("count(2) of three", x.count(2), 3);
        CHECK.due("end(0)", x.end(0), true);
        CHECK.due("count(2) of none", x.count(2), 0);
    }

    /** The bytes come highest first, number behind number, behind the tape that is there. */
    private static void bytesInOrder() {
        LongTable x = Check.with("truth a 10;truth b 10;voter p sees 3 1 2 17 3 4 13;voter q sees 3 5 6 9 7 8 5;"
            + "voter r sees 2 9 11 1 19;voter s sees 2 20 0 3 17;voter t sees 3 20 0 0 4 6 10;");
        x.feed(0x01020100, 0x02000000, 7, 7, 7);
        x.end(5);
        CHECK.due("parts(0)", x.parts(0), 0);
        x.feed(0x01020100, 0x02000000, 7, 7, 7);
        x.end(5);
        CHECK.due("parts(1)", x.parts(1), 10L * 4 * 5 * 19 * 3 * 10);
        x.feed(0x01020000, 0, 0, 0, 0);
        x.end(2);
        x.feed(0x01000000, 0, 0, 0, 0);
        x.end(5);
        CHECK.due("parts(0)", x.parts(0), 10L * 2 * 9 * 11 * 20 * 20);
        // A byte counts as 0 to 255.
        Check.tape(x, 0, 0, 0, 0, 255);
        CHECK.dueThrow("parts(0) of a byte 255", () -> x.parts(0));
    }
}
