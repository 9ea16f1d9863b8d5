/** Promises 59 to 65: rate, count, images, SLOTS. */
public final class StateTest {
    private static final TestKit KIT = new TestKit();
    private static final String ONE = "house law 1 odds 2 minutes 6;room wait 3 worth 40;room wait 4 worth 50;way 0 1;round 0 1;";
    private static final String OTHER = "house law 2 odds 3 minutes 9;room wait 5 worth 7;visitor in 0 at 2;";

    public static void main(String[] args) {
        rate();
        count();
        images();
        imageOfWays();
        imageOfNothing();
        row();
        write();
        paste();
        slotsStay();
        KIT.close("StateTest");
    }

    private static void rate() {
        KIT.part("59 rate");
        LampRounds x = TestKit.told(ONE);
        KIT.due("rate(0, 99)", x.rate(0, 99), 40);
        KIT.due("rate(0, 0)", x.rate(0, 0), 99);
        KIT.due("room(0, 1)", x.room(0, 1), 0);
        KIT.due("worth(0, 0)", x.worth(0, 0), 50);
        KIT.due("rate(0, 100)", x.rate(0, 100), -2);
        KIT.due("rate(0, -1)", x.rate(0, -1), -2);
        KIT.due("rate(2, 1)", x.rate(2, 1), -2);
        KIT.due("rate(-1, 1)", x.rate(-1, 1), -2);
        x.nods(0);
        KIT.due("rate with acts", x.rate(0, 5), -5);
        KIT.due("rate with acts, no such ROOM", x.rate(2, 5), -2);
        KIT.due("rate with acts, no such worth", x.rate(0, 100), -2);
        KIT.due("room(0, 1)", x.room(0, 1), 0);
        x.undo();
        KIT.due("rate with acts taken back", x.rate(0, 5), 0);
        KIT.due("room(0, 1)", x.room(0, 1), 5);
    }

    private static void counts(LampRounds x, int... want) {
        for (int what = 0; what < want.length; what++) {
            KIT.due("count(" + what + ")", x.count(what), want[what]);
        }
    }

    private static void count() {
        KIT.part("60 count");
        LampRounds x = TestKit.told(ONE);
        counts(x, 1, 2, 6, 2, 1, 0, 2, 0, 5, 0, 0);
        x.nods(2);
        x.feed(1, 2, 3, 4, 5);
        x.row(3, 0, 0);
        x.row(0, 1, 60);
        counts(x, 1, 2, 6, 2, 1, 0, 2, 1, 5, 20, 2);
        x.row(1, 0, 1);
        x.row(2, 0, 1);
        x.row(2, 3, 1);
        KIT.due("count(10)", x.count(10), 4);
        KIT.due("count(11)", x.count(11), -1);
        KIT.due("count(-1)", x.count(-1), -1);
        KIT.due("count(min)", x.count(Integer.MIN_VALUE), -1);
        x.end(0);
        x.house();
        counts(x, 0, 0, 0, 0, 0, 0, 0, 0, 0, 0, 4);
    }

    private static void images() {
        KIT.part("61, 62 images");
        LampRounds x = TestKit.told(ONE);
        for (int k = 0; k < 3; k++) {
            KIT.due("back(" + k + ") of nothing", x.back(k), -6);
        }
        int[] wrong = {-1, 3, Integer.MAX_VALUE, Integer.MIN_VALUE};
        for (int k : wrong) {
            KIT.due("image(" + k + ")", x.image(k), -2);
            KIT.due("back(" + k + ")", x.back(k), -2);
        }
        x.rate(0, 41);
        x.visit(1, 2);
        x.nods(3);
        int age = x.age(0, 1, 2);
        KIT.due("image(0)", x.image(0), 0);
        KIT.due("back(1)", x.back(1), -6);
        TestKit.tell(x, OTHER);
        x.nods(8);
        KIT.due("image(2)", x.image(2), 0);
        x.nods(7);
        KIT.due("back(0)", x.back(0), 0);
        counts(x, 1, 2, 6, 2, 1, 0, 2, 2, 5);
        KIT.due("worth kept", x.room(0, 1), 41);
        KIT.due("age(0, 1, 2)", x.age(0, 1, 2), age);
        KIT.due("doors(0)", x.doors(0), 2);
        KIT.due("far(0, 1)", x.far(0, 1), 1);
        KIT.due("round(1)", x.round(1), 1);
        KIT.due("undo()", x.undo(), 1);
        x.anew();
        x.rate(0, 3);
        KIT.due("back(0), as it was kept", x.back(0), 0);
        KIT.due("worth kept", x.room(0, 1), 41);
        KIT.due("acts kept", x.count(7), 2);
        KIT.due("back(2)", x.back(2), 0);
        counts(x, 2, 3, 9, 1, 0, 1, 0, 1, 3);
        KIT.due("looks(0, 0)", x.looks(0, 0), 8);
        KIT.due("image(0), in place of another", x.image(0), 0);
        x.house();
        KIT.due("no house", x.dark(0), -2);
        KIT.due("back(0)", x.back(0), 0);
        KIT.due("wait", x.room(0, 0), 5);
        x.feed(1, 1, 1, 1, 1);
        x.row(1, 1, 1);
        x.back(2);
        KIT.due("the TAPE stays", x.count(9), 20);
        KIT.due("SLOTS stay", x.count(10), 1);
    }

    /** Whatever is known of a HOUSE's ways comes back with it. */
    private static void imageOfWays() {
        KIT.part("61, 62 ways of an image");
        String four = "house law 0 odds 0 minutes 9;room wait 5 worth 7;room wait 5 worth 7;room wait 5 worth 7;room wait 5 worth 7;";
        LampRounds x = TestKit.told(four + "way 0 1;way 1 2;way 2 3;round 3 2 1 0;");
        x.image(0);
        TestKit.tell(x, four + "way 0 3;");
        KIT.due("at(0, 0) without a ROUND", x.at(0, 0), 0);
        KIT.due("keeps(8) without a ROUND", x.keeps(8), 1);
        KIT.due("keeps(6) without a ROUND", x.keeps(6), 0);
        KIT.due("next() without a ROUND", x.next(), -1);
        x.back(0);
        int[][] far = {{0, 1, 2, 3}, {1, 0, 1, 2}, {2, 1, 0, 1}, {3, 2, 1, 0}};
        for (int r = 0; r < 4; r++) {
            for (int s = 0; s < 4; s++) {
                KIT.due("far(" + r + ", " + s + ")", x.far(r, s), far[r][s]);
            }
        }
        KIT.due("at(0, 3)", x.at(0, 3), 0);
        KIT.due("at(1, 0)", x.at(1, 0), 3);
    }

    private static void imageOfNothing() {
        KIT.part("61, 62 an image of no HOUSE");
        LampRounds x = new LampRounds();
        KIT.due("image(1)", x.image(1), 0);
        TestKit.tell(x, ONE);
        KIT.due("back(1)", x.back(1), 0);
        counts(x, 0, 0, 0, 0, 0, 0, 0, 0, 0);
        KIT.due("dark(0)", x.dark(0), -2);
        KIT.due("states()", x.states(), -2);
        TestKit.tell(x, "house law 7");
        x.image(0);
        x.back(0);
        KIT.due("fault(0) is of the latest house()", x.fault(0), 2);
    }

    private static void row() {
        KIT.part("63 row");
        LampRounds x = new LampRounds();
        KIT.due("row(0, 0, 60)", x.row(0, 0, 60), 0);
        KIT.due("row(3, 3, 0)", x.row(3, 3, 0), 0);
        KIT.due("row(0, 0, 61)", x.row(0, 0, 61), -2);
        KIT.due("row(0, 0, max)", x.row(0, 0, Integer.MAX_VALUE), -2);
        KIT.due("row(4, 0, 1)", x.row(4, 0, 1), -2);
        KIT.due("row(-1, 0, 1)", x.row(-1, 0, 1), -2);
        KIT.due("row(0, 4, 1)", x.row(0, 4, 1), -2);
        KIT.due("row(0, -1, 1)", x.row(0, -1, 1), -2);
        KIT.due("row(0, 0, -1)", x.row(0, 0, -1), -3);
        KIT.due("row(0, 0, min)", x.row(0, 0, Integer.MIN_VALUE), -3);
        KIT.due("row(4, 0, -1)", x.row(4, 0, -1), -2);
        KIT.due("row(0, 4, -1)", x.row(0, 4, -1), -2);
        KIT.due("the SLOT stays", x.write(0, 59, 1), 0);
        KIT.due("row(1, 0, -1) of nothing", x.row(1, 0, -1), -3);
        KIT.due("nothing still", x.write(1, 0, 0), -6);
        // all 0, in place of another
        TestKit.tell(x, ONE);
        TestKit.row(x, 2, 0, 0, 5);
        KIT.due("begins of AGE 5", x.begins(2), 0);
        x.row(2, 3, 3);
        KIT.due("begins of AGE 0", x.begins(2), 1);
    }

    private static void write() {
        KIT.part("64 write");
        LampRounds x = new LampRounds();
        KIT.due("write(0, 0, 0) to nothing", x.write(0, 0, 0), -6);
        KIT.due("write(0, -1, 0) to nothing", x.write(0, -1, 0), -6);
        KIT.due("write(4, 0, 0)", x.write(4, 0, 0), -2);
        KIT.due("write(-1, 0, 0)", x.write(-1, 0, 0), -2);
        x.row(0, 0, 2);
        KIT.due("write(0, 2, 0)", x.write(0, 2, 0), -7);
        KIT.due("write(0, -1, 0)", x.write(0, -1, 0), -7);
        KIT.due("write(0, max, 0)", x.write(0, Integer.MAX_VALUE, 0), -7);
        KIT.due("write(0, 1, max)", x.write(0, 1, Long.MAX_VALUE), 0);
        KIT.due("write(0, 0, min)", x.write(0, 0, Long.MIN_VALUE), 0);
        x.row(1, 2, 0);
        KIT.due("write(1, 0, 0) to a row of none", x.write(1, 0, 0), -7);
        // cut to its WIDTH: 1 more than 2^8, 2^16, 2^32 is 1
        TestKit.tell(x, ONE);
        long[] beyond = {1L << 8, 1L << 16, 1L << 32};
        for (int width = 0; width < 4; width++) {
            x.row(2, width, 3);
            for (int i = 0; i < 3; i++) {
                x.write(2, 0, beyond[i]);
                KIT.due("begins, WIDTH " + width + ", " + beyond[i], x.begins(2), width <= i ? 1 : -2);
            }
        }
    }

    private static void paste() {
        KIT.part("65 paste");
        LampRounds x = TestKit.told(ONE);
        KIT.due("paste of nothing", x.paste(0, 0, 1, 0, 0), -6);
        x.row(0, 1, 6);
        KIT.due("paste to nothing", x.paste(0, 0, 1, 0, 1), -6);
        KIT.due("paste of nothing", x.paste(1, 0, 0, 0, 1), -6);
        KIT.due("paste, no such SLOT", x.paste(4, 0, 1, 0, 1), -2);
        KIT.due("paste, no such SLOT", x.paste(1, 0, 4, 0, 1), -2);
        KIT.due("paste, no such SLOT", x.paste(-1, 0, 0, 0, 1), -2);
        x.row(1, 2, 3);
        KIT.due("paste, another WIDTH", x.paste(0, 0, 1, 0, 3), -8);
        KIT.due("paste, another WIDTH ahead of places", x.paste(0, 9, 1, 0, 3), -8);
        x.row(1, 1, 3);
        int[][] wrong = {{0, 0, 4}, {4, 0, 3}, {-1, 0, 1}, {0, -1, 1}, {0, 0, -1}, {6, 0, 1}, {0, 3, 1}, {7, 0, 0}, {0, 4, 0},
            {Integer.MAX_VALUE, 0, 1}, {0, Integer.MAX_VALUE, Integer.MAX_VALUE}, {1, 1, Integer.MAX_VALUE},
            {Integer.MIN_VALUE, 0, Integer.MIN_VALUE}};
        for (int[] w : wrong) {
            KIT.due("paste(0, " + w[0] + ", 1, " + w[1] + ", " + w[2] + ")", x.paste(0, w[0], 1, w[1], w[2]), -7);
        }
        KIT.due("paste(0, 6, 1, 3, 0)", x.paste(0, 6, 1, 3, 0), 0);
        // 1, 3, AGE: pasted, the row tells of another ROOM and MINUTE
        int age = x.age(0, 1, 3);
        x.write(0, 3, 1);
        x.write(0, 4, 3);
        x.write(0, 5, age);
        KIT.due("begins as it is", x.laws(1) >> 1 & 1, 1);
        KIT.due("paste(0, 3, 1, 0, 3)", x.paste(0, 3, 1, 0, 3), 0);
        KIT.due("laws then", x.laws(1) >> 1 & 1, 1);
        x.write(0, 5, age + 1);
        KIT.due("a copy, not the row itself", x.laws(1) >> 1 & 1, 1);
        KIT.due("paste(0, 5, 1, 2, 1)", x.paste(0, 5, 1, 2, 1), 0);
        KIT.due("laws of another AGE", x.laws(1) >> 1 & 1, 0);
        overlaps();
    }

    /** In one row, forward and backward: the numbers are those that were there. */
    private static void overlaps() {
        LampRounds x = TestKit.told("house law 0 odds 0 minutes 9;room wait 7 worth 1;room wait 7 worth 1;round 0;");
        // AGE of 1 at MINUTE t is t and 1
        TestKit.row(x, 0, 1, 2, 3, 0, 0, 0);
        KIT.due("paste(0, 0, 0, 1, 5)", x.paste(0, 0, 0, 1, 5), 0);
        // 1 1 2 3 0 0
        KIT.due("no such ROOM now", x.begins(0), -2);
        x.write(0, 3, 0);
        KIT.due("1 1 2 0 0 0", x.begins(0), 1);
        TestKit.row(x, 0, 0, 1, 2, 3, 1, 4);
        KIT.due("paste(0, 1, 0, 0, 5)", x.paste(0, 1, 0, 0, 5), 0);
        // 1 2 3 1 4 4
        KIT.due("1 2 3 1 4 4", x.begins(0), 0);
        x.write(0, 5, 5);
        KIT.due("1 2 3 1 4 5", x.begins(0), 1);
    }

    private static void slotsStay() {
        KIT.part("63 SLOTS stay when the HOUSE goes");
        LampRounds x = TestKit.told(ONE);
        TestKit.row(x, 0, 0, 0, 0);
        TestKit.tell(x, "house law 0 odds 0 minutes 3;room wait 1 worth 1;round 0 0;");
        KIT.due("begins", x.begins(0), 2);
        KIT.due("count(10)", x.count(10), 1);
    }
}
