/** Edges of promises 1 to 3: a new object, feed, end. */
final class TapeEdges {
    private static final int MIN = Integer.MIN_VALUE;
    private static final int MAX = Integer.MAX_VALUE;

    private TapeEdges() {
    }

    static void all(Edges e) {
        newObject(e);
        lastCall(e);
        twentyBytes(e);
        howMany(e);
        tooMany(e);
        ends(e);
        endsNot(e);
    }

    /** A tape of so many blanks. */
    private static LongTable blanks(int bytes) {
        LongTable x = new LongTable();
        int blanks = 0x20202020;
        while (x.count(2) < bytes) {
            x.feed(blanks, blanks, blanks, blanks, blanks);
        }
        x.end(bytes);
        return x;
    }

    private static void newObject(Edges e) {
        e.says(1, "No MATTER");
        e.edge("no TRUTHS", () -> e.due("count(0)", new LongTable().count(0), 0));
        e.edge("no VOTERS", () -> e.due("count(1)", new LongTable().count(1), 0));
        e.edge("no CASES", () -> e.due("all()", new LongTable().all(), 0));
        e.edge("one beside another that has one", () -> {
            LongTable other = Check.with(Examples.ONE);
            e.due("count(1)", new LongTable().count(1), 0);
            e.due("count(1) of the other", other.count(1), 1);
        });
        e.says(1, "an empty tape");
        e.edge("no bytes", () -> e.due("count(2)", new LongTable().count(2), 0));
        e.edge("its first 0 bytes are there", () -> e.due("end(0)", new LongTable().end(0), true));
        e.edge("it has not one byte", () -> e.due("end(1)", new LongTable().end(1), false));
        e.edge("as a text it ends at place 0", () -> e.due("matter()", new LongTable().matter(), -1));
        e.edge("one beside another that has bytes", () -> {
            LongTable other = blanks(740);
            e.due("count(2)", new LongTable().count(2), 0);
            e.due("count(2) of the other", other.count(2), 740);
        });
    }

    private static void lastCall(Edges e) {
        e.says(1, "An object is used for at most 512 calls after it has been made");
        e.edge("the 512th call answers", () -> {
            LongTable x = new LongTable();
            x.feed(0x74727574, 0x68206120, 0x353b7472, 0x75746820, 0x62203135);
            x.feed(0x3b766f74, 0x65722078, 0x20736565, 0x73203220, 0x31302031);
            x.feed(0x30203420, 0x31363b00, 0, 0, 0);
            x.end(47);
            x.matter();
            for (int call = 6; call <= 511; call++) {
                e.due("call " + call, call % 2 == 0 ? x.run(call, 1000) > 0 : x.settle() == 1, true);
            }
            e.due("right()", x.right(), 300);
        });
        e.edge("512 feeds, all beyond the 37th refused", () -> {
            LongTable x = new LongTable();
            for (int call = 1; call <= 512; call++) {
                e.due("feed " + call, x.feed(call, call, call, call, call), call <= 37 ? 20 * call : -1);
            }
        });
    }

    private static void twentyBytes(Edges e) {
        e.says(2, "Twenty bytes come behind the tape, of each number the highest first");
        for (int i = 0; i < 20; i++) {
            int at = i;
            e.edge("byte " + i + " of twenty", () -> {
                int[] five = new int[5];
                for (int j = 0; j < 20; j++) {
                    five[j / 4] = five[j / 4] << 8 | (j == at ? '.' : ' ');
                }
                LongTable x = new LongTable();
                x.feed(five[0], five[1], five[2], five[3], five[4]);
                e.due("matter() with no TOKEN there", x.matter(), -1 - at);
            });
        }
        e.edge("the next twenty come behind the first", () -> {
            LongTable x = blanks(20);
            x.feed('.' << 24, 0, 0, 0, 0);
            e.due("matter() with no TOKEN at 20", x.matter(), -21);
        });
        e.edge("behind three bytes that end() left", () -> {
            LongTable x = blanks(3);
            x.feed('.' << 24, 0, 0, 0, 0);
            e.due("matter() with no TOKEN at 3", x.matter(), -4);
        });
        e.edge("a number below 0 has bytes above 127, which are no letters", () -> {
            LongTable x = new LongTable();
            x.feed(0x74727574 | MIN, 0x68206120, 0x353b7472, 0x75746820, 0x62203135);
            e.due("matter()", x.matter(), -1);
        });
        e.edge("bytes 255, 128 and 127 of -1, the least and the greatest number", () -> {
            LongTable x = Check.with(Examples.ONE);
            for (int number : new int[] {-1, MIN, MAX}) {
                x.feed(number, 0, 0, 0, 0);
                x.end(1);
                e.due("decided() of " + number, x.decided(), -1);
            }
            x.feed(MIN, 0, 0, 0, 0);
            x.end(2);
            e.due("decided() of bytes 128, 0", x.decided(), -1);
        });
        e.edge("256 has a byte 1 ahead of its lowest", () -> {
            LongTable x = Check.with(Examples.THREE);
            x.feed(256, 0, 0, 0, 0);
            x.end(3);
            e.due("parts(0) of SIGNS 0, 0, 1", x.parts(0), 10 * 15 * 15 * 5);
        });
    }

    private static void howMany(Edges e) {
        e.says(2, "how many it has");
        e.edge("20 on an empty tape", () -> e.due("feed", new LongTable().feed(0, 0, 0, 0, 0), 20));
        e.edge("21 behind one byte", () -> e.due("feed", blanks(1).feed(0, 0, 0, 0, 0), 21));
        e.edge("37 times, up to 740", () -> {
            LongTable x = new LongTable();
            for (int i = 1; i <= 37; i++) {
                e.due("feed " + i, x.feed(-1, MIN, MAX, 0, 1), 20 * i);
            }
        });
        e.edge("20 again behind matter() has emptied it", () -> {
            LongTable x = blanks(740);
            x.matter();
            e.due("feed", x.feed(0, 0, 0, 0, 0), 20);
        });
    }

    private static void tooMany(Edges e) {
        e.says(2, "NONE, and none come, if it would have more than 740");
        e.edge("720 and twenty are 740", () -> e.due("feed", blanks(720).feed(0, 0, 0, 0, 0), 740));
        for (int bytes : new int[] {721, 739, 740}) {
            e.edge("behind " + bytes + " none come", () -> {
                LongTable x = blanks(bytes);
                e.due("feed", x.feed(0, 0, 0, 0, 0), -1);
                e.due("count(2)", x.count(2), bytes);
                e.due("feed again", x.feed(0, 0, 0, 0, 0), -1);
                e.due("count(2) still", x.count(2), bytes);
            });
        }
        e.edge("those that are there stay as they are", () -> {
            LongTable x = new LongTable();
            Check.tape(x, Examples.ONE + " ".repeat(740 - Examples.ONE.length()));
            e.due("feed", x.feed(-1, -1, -1, -1, -1), -1);
            x.end(700);
            e.due("matter()", x.matter(), 3);
        });
        e.edge("none of them is the 722nd byte either", () -> {
            LongTable x = blanks(721);
            x.feed('.' << 24, 0, 0, 0, 0);
            e.due("end(722)", x.end(722), false);
        });
    }

    private static void ends(Edges e) {
        e.says(3, "The tape has its first n bytes alone: true");
        e.edge("0 of none", () -> e.due("end(0)", new LongTable().end(0), true));
        e.edge("0 of 740", () -> {
            LongTable x = blanks(740);
            e.due("end(0)", x.end(0), true);
            e.due("count(2)", x.count(2), 0);
        });
        e.edge("all 740", () -> {
            LongTable x = blanks(740);
            e.due("end(740)", x.end(740), true);
            e.due("count(2)", x.count(2), 740);
        });
        e.edge("1 of 20", () -> {
            LongTable x = blanks(20);
            e.due("end(1)", x.end(1), true);
            e.due("count(2)", x.count(2), 1);
        });
        e.edge("the first ones, not the last", () -> {
            LongTable x = Check.with(Examples.THREE);
            x.feed(0x00000101, 0x01000000, 0, 0, 0);
            x.end(5);
            e.due("end(3)", x.end(3), true);
            e.due("parts(0) of SIGNS 0, 0, 1", x.parts(0), 10 * 15 * 15 * 5);
        });
        e.edge("what was cut off does not come back", () -> {
            LongTable x = Check.with(Examples.THREE);
            x.feed(0x01010101, 0, 0, 0, 0);
            x.end(1);
            x.feed(0, 0, 0, 0, 0);
            x.end(3);
            e.due("parts(0) of SIGNS 1, 0, 0", x.parts(0), 10 * 5 * 15 * 15);
        });
    }

    private static void endsNot(Edges e) {
        e.says(3, "false, if it has not so many, or n is below 0");
        e.edge("1 of none", () -> e.due("end(1)", new LongTable().end(1), false));
        for (int n : new int[] {21, 740, 741, MAX, -1, -20, MIN}) {
            e.edge(n + " of 20, and they stay", () -> {
                LongTable x = blanks(20);
                e.due("end(" + n + ")", x.end(n), false);
                e.due("count(2)", x.count(2), 20);
            });
        }
        for (int n : new int[] {741, 760, MAX, -1, -740, MIN}) {
            e.edge(n + " of 740, and they stay", () -> {
                LongTable x = blanks(740);
                e.due("end(" + n + ")", x.end(n), false);
                e.due("count(2)", x.count(2), 740);
            });
        }
        e.edge("so many as it had ahead of a cut", () -> {
            LongTable x = blanks(20);
            x.end(3);
            e.due("end(4)", x.end(4), false);
            e.due("end(20)", x.end(20), false);
            e.due("count(2)", x.count(2), 3);
        });
        e.edge("-1 of none", () -> e.due("end(-1)", new LongTable().end(-1), false));
    }
}
