import java.lang.management.ManagementFactory;

/** All calls of a run live in one room: rows are made in the constructor, and no call makes any. */
public final class RoomTest {
    private static final Check CHECK = new Check();
    private static final com.sun.management.ThreadMXBean ROOM =
        (com.sun.management.ThreadMXBean) ManagementFactory.getThreadMXBean();
    /** What asking for the room used may cost itself. */
    private static final long SLACK = 20000;

    public static void main(String[] args) {
        StringBuilder text = new StringBuilder("truth a 7;truth b 6;truth c 7;");
        for (char v = 'm'; v < 'r'; v++) {
            text.append("voter ").append(v).append(" sees 3 10 6 4 3 12 5 1 2 17;");
        }
        int[] bytes = text.chars().toArray();
        String small = "truth a 7;truth b 13;voter x sees 3 10 6 4 3 12 5;voter y sees 3 10 5 5 3 12 5;";
        int[] smallBytes = small.chars().toArray();
        LongTable x = new LongTable();
        LongTable y = new LongTable();
        long sum = all(x, y, bytes, smallBytes);
        CHECK.due("calls of no objects", made(() -> { }) < SLACK, true);
        long room = made(() -> all(x, y, bytes, smallBytes));
        CHECK.due("all calls made " + room + " bytes", room < SLACK, true);
        CHECK.due("they answered", sum != 0, true);
        long one = made(LongTable::new);
        CHECK.due("an object takes " + one + " bytes", one < SLACK + 40000, true);
        CHECK.end("RoomTest");
    }

    private static long made(Runnable calls) {
        long thread = Thread.currentThread().getId();
        long before = ROOM.getThreadAllocatedBytes(thread);
        calls.run();
        return ROOM.getThreadAllocatedBytes(thread) - before;
    }

    /** Twenty times over, so that what one call makes would be seen. */
    private static long all(LongTable x, LongTable y, int[] text, int[] small) {
        long sum = 0;
        for (int i = 0; i < 20; i++) {
            feed(x, text);
            sum += x.matter() + x.right() + x.comes(0, 0) + x.lost() + x.knows(0) + x.turns(0, 0) + x.think(0, 0, 0);
            sum += x.reply(0, 0) + x.fit() + x.settle() + x.settles(0) + x.bestOrder() + x.bestRule() + x.bar(0, 1);
            sum += x.silent() + x.helps(0, 1) + x.believed(0, 1, 4) + x.shut(0, 0, 0) + x.weighed() + x.many(11, 7);
            sum += x.run(i, 1000);
            row(x, 0x00010204, 3);
            sum += x.inTurns() + x.herd(0);
            row(x, 0x00010201, 2);
            sum += x.says();
            row(x, 0x00010201, 2);
            sum += x.cliff();
            row(x, 0x00010201, 2);
            sum += x.decided();
            row(x, 0x00010201, 2);
            sum += x.known();
            row(x, 0x00010201, 2);
            sum += x.parts(0);
            row(x, 0x00010201, 2);
            sum += x.guess();
            row(x, 0x00010201, 2);
            sum += x.minutes(0, 0);
            feed(y, small);
            sum += y.matter() + y.fits() + y.fitAt(0, 0);
            feed(y, text);
            y.end(99);
            sum += y.matter();
        }
        return sum;
    }

    /** Five bytes, one of each VOTER. */
    private static void row(LongTable x, int four, int last) {
        x.end(0);
        x.feed(four, last << 24, 0, 0, 0);
        x.end(5);
    }

    private static void feed(LongTable x, int[] bytes) {
        x.end(0);
        for (int i = 0; i < bytes.length; i += 20) {
            x.feed(four(bytes, i), four(bytes, i + 4), four(bytes, i + 8), four(bytes, i + 12), four(bytes, i + 16));
        }
        x.end(bytes.length);
    }

    private static int four(int[] bytes, int from) {
        int four = 0;
        for (int i = from; i < from + 4; i++) {
            four = four << 8 | (i < bytes.length ? bytes[i] : 0);
        }
        return four;
    }
}
