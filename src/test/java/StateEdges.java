import java.util.Arrays;

/** Boundary cases of SLOTS, of the order in which calls are refused, and of promises 59 to 65. */
final class StateEdges {
    /** He stays in 0: AGE of the flame of 1 at MINUTE t is t and 1, by the one place of the ROUND. */
    private static final String ONE = "house law 0 odds 5 minutes 8;room wait 7 worth 40;room wait 7 worth 50;round 0;";
    private static final String FULL = "house law 3 odds 10 minutes 30;room wait 7 worth 99;room wait 7 worth 99;room wait 7 worth 99;"
        + "room wait 7 worth 99;way 0 1;way 1 2;way 2 3;way 0 2;way 0 3;way 1 3;visitor in 0 at 0;visitor in 1 at 1;"
        + "visitor in 2 at 2;visitor in 3 at 3;visitor in 0 at 29;round 0 1 2 3 0 1 2 3 0 1 2 3;";
    private static final String EMPTY = "house law 0 odds 5 minutes 6;";
    private static final int MIN = Integer.MIN_VALUE;
    private static final int MAX = Integer.MAX_VALUE;
    private static final int[] NO_SLOTS = {-1, 4, MIN, MAX};

    private final EdgeKit kit;

    private StateEdges(EdgeKit kit) {
        this.kit = kit;
    }

    static void run(EdgeKit kit) {
        StateEdges edges = new StateEdges(kit);
        edges.slots();
        edges.refusedFirst();
        edges.rate();
        edges.count();
        edges.image();
        edges.back();
        edges.row();
        edges.rowRefused();
        edges.write();
        edges.paste();
        edges.pasteRefused();
    }

    // ---- what these tests share

    /** A row that fits ONE, and no longer if any of its numbers is changed: 1, m, m and 1 again and again. */
    private static long[] fitting(int n) {
        long[] row = new long[n];
        for (int i = 0; i < n; i++) {
            int m = i / 3 % 7;
            row[i] = i % 3 == 0 ? 1 : i % 3 == 1 ? m : m + 1;
        }
        return row;
    }

    private static void fill(LampRounds x, int slot, int width, long... numbers) {
        x.row(slot, width, numbers.length);
        for (int i = 0; i < numbers.length; i++) {
            x.write(slot, i, numbers[i]);
        }
    }

    /** Whether a SLOT has just these numbers, of a HOUSE told by ONE, as far as three each can tell. */
    private void has(LampRounds x, int slot, long... numbers) {
        int length = numbers.length;
        kit.due("number " + length + " of SLOT " + slot, x.paste(slot, length, slot, 0, 1), -7);
        if (length > 0) {
            kit.due("number " + (length - 1) + " of SLOT " + slot, x.paste(slot, length - 1, slot, length - 1, 1), 0);
        }
        boolean fits = true;
        for (int i = 0; i + 2 < length; i += 3) {
            fits &= numbers[i] == 0 ? numbers[i + 2] == 0 : numbers[i + 2] == numbers[i + 1] + 1;
        }
        kit.due("begins(" + slot + ") of " + Arrays.toString(numbers), x.begins(slot), fits ? 1 : 0);
    }

    // ---- Terms

    private void slots() {
        kit.term("text", "SLOTS 0 .. 3 have rows of numbers of 1, 2, 4 or 8 bytes (WIDTH 0 .. 3), at most 60, or nothing.");
        LampRounds x = TestKit.told(ONE);
        for (int slot = 0; slot < 4; slot++) {
            kit.due("write to SLOT " + slot + " of nothing", x.write(slot, 0, 0), -6);
        }
        for (int slot = 0; slot < 4; slot++) {
            fill(x, slot, slot, fitting(60));
            kit.due("count(10)", x.count(10), slot + 1);
        }
        for (int slot = 0; slot < 4; slot++) {
            has(x, slot, fitting(60));
            kit.due("write(" + slot + ", 60, 0)", x.write(slot, 60, 0), -7);
        }
        fill(x, 0, 0, fitting(59));
        kit.due("write(0, 58, 0), one short of full", x.write(0, 58, 0), 0);
        kit.due("write(0, 59, 0), one short of full", x.write(0, 59, 0), -7);
        kit.due("begins(0) of 59", x.begins(0), -2);
        // one byte, two, four, eight: the greatest power of 2 that a number can be without being cut to 0
        for (int width = 0; width < 4; width++) {
            int bits = 8 << width;
            x.row(0, width, 3);
            x.write(0, 0, 1L << bits - 1);
            kit.due("2 by " + (bits - 1) + " in WIDTH " + width, x.begins(0), -2);
            if (width < 3) {
                x.write(0, 0, 1L << bits);
                kit.due("2 by " + bits + " in WIDTH " + width, x.begins(0), 1);
            }
        }
    }

    private void refusedFirst() {
        kit.term("text", "-2 (-1,000) is asked ahead of -5, -6.");
        LampRounds x = TestKit.told(ONE);
        for (int i = 0; i < 30; i++) {
            x.nods(0);
        }
        kit.due("visit(2, 0), thirty acts", x.visit(2, 0), -2);
        kit.due("visit(-1, 0), thirty acts", x.visit(-1, 0), -2);
        kit.due("visit(0, 8), thirty acts", x.visit(0, 8), -2);
        kit.due("nods(8), thirty acts", x.nods(8), -2);
        kit.due("nods(-1), thirty acts", x.nods(-1), -2);
        kit.due("rate(2, 0), thirty acts", x.rate(2, 0), -2);
        kit.due("rate(0, 100), thirty acts", x.rate(0, 100), -2);
        kit.due("rate(0, -1), thirty acts", x.rate(0, -1), -2);
        kit.due("undo(), no HOUSE, no act", new LampRounds().undo(), -2);
        kit.due("begins(4)", x.begins(4), -2);
        kit.due("begins(0) of nothing, no HOUSE", new LampRounds().begins(0), -2);
        kit.due("laws(0) of nothing, no HOUSE", new LampRounds().laws(0), -2);
        kit.due("back(3) of nothing", x.back(3), -2);
        kit.due("write(4, 0, 0)", x.write(4, 0, 0), -2);
        kit.due("paste(0, 0, 4, 0, 0) of nothing", x.paste(0, 0, 4, 0, 0), -2);
        kit.due("paste(4, 0, 0, 0, 0) to nothing", x.paste(4, 0, 0, 0, 0), -2);
        // there is no -5 or -6 of gets(); with thirty acts it is refused all the same
        kit.due("gets(0, 0, 0, 0), thirty acts", x.gets(0, 0, 0, 0), -1000);
    }

    // ---- promises 59, 60

    private void rate() {
        kit.promise(59, "worth of a ROOM is n (0 .. 99) from now on: what it was.");
        LampRounds x = TestKit.told(ONE);
        kit.due("rate(0, 0)", x.rate(0, 0), 40);
        kit.due("room(0, 1)", x.room(0, 1), 0);
        kit.due("rate(0, 99)", x.rate(0, 99), 0);
        kit.due("rate(0, 99) again", x.rate(0, 99), 99);
        kit.due("rate(1, 1), the last ROOM", x.rate(1, 1), 50);
        kit.due("room(0, 1)", x.room(0, 1), 99);
        kit.due("room(1, 1)", x.room(1, 1), 1);
        kit.due("worth(0, 0)", x.worth(0, 0), 100);
        kit.due("most()", x.most(), 99);
        kit.due("room(0, 0), its wait", x.room(0, 0), 7);
        kit.promise(59, "-5: there were acts");
        x.nods(0);
        kit.refused(x, "rate(0, 5), one act", () -> x.rate(0, 5), -5);
        x.undo();
        kit.due("rate(0, 5), taken back", x.rate(0, 5), 99);
        x.visit(0, 0);
        kit.due("rate(0, 6), one visit", x.rate(0, 6), -5);
        x.anew();
        kit.due("rate(0, 6), all taken back", x.rate(0, 6), 5);
        kit.promise(59, "-2: there are none such.");
        LampRounds y = TestKit.told(ONE);
        int[] none = {-1, 2, 4, MIN, MAX};
        for (int room : none) {
            kit.due("rate(" + room + ", 0)", y.rate(room, 0), -2);
        }
        int[] worths = {-1, 100, MIN, MAX};
        for (int n : worths) {
            kit.due("rate(0, " + n + ")", y.rate(0, n), -2);
        }
        kit.refused(y, "rate(0, 100)", () -> y.rate(0, 100), -2);
        kit.refused(y, "rate(2, 9)", () -> y.rate(2, 9), -2);
        kit.due("rate(3, 0) of four", TestKit.told(FULL).rate(3, 0), 99);
        kit.due("rate(4, 0) of four", TestKit.told(FULL).rate(4, 0), -2);
        kit.due("rate(0, 0) without ROOMS", TestKit.told(EMPTY).rate(0, 0), -2);
        kit.due("rate(0, 0) without a HOUSE", new LampRounds().rate(0, 0), -2);
    }

    private void counts(LampRounds x, int... want) {
        for (int what = 0; what < want.length; what++) {
            kit.due("count(" + what + ")", x.count(what), want[what]);
        }
    }

    private void count() {
        kit.promise(60, "0 LAW, 1 odds, 2 minutes, 3 ROOMS, 4 WAYS, 5 VISITORS told, 6 places of the ROUND, 7 acts, 8 LINES, "
            + "9 bytes of the TAPE, 10 SLOTS that have a row.");
        LampRounds x = new LampRounds();
        counts(x, 0, 0, 0, 0, 0, 0, 0, 0, 0, 0, 0);
        TestKit.tell(x, FULL);
        counts(x, 3, 10, 30, 4, 6, 5, 12, 0, 17, 0, 0);
        for (int i = 0; i < 30; i++) {
            x.visit(3, i);
        }
        for (int i = 0; i < 25; i++) {
            x.feed(0, 0, 0, 0, 0);
        }
        for (int slot = 0; slot < 4; slot++) {
            x.row(slot, 0, 0);
            x.row(slot, 0, 60);
        }
        counts(x, 3, 10, 30, 4, 6, 5, 12, 30, 17, 500, 4);
        TestKit.tell(x, "house law 1 odds 2 minutes 3;");
        counts(x, 1, 2, 3, 0, 0, 0, 0, 0, 1, 0, 4);
        kit.promise(60, "NONE for others.");
        int[] others = {-1, 11, 12, MIN, MAX};
        for (int what : others) {
            kit.due("count(" + what + ")", x.count(what), -1);
            kit.due("count(" + what + ") of a new object", new LampRounds().count(what), -1);
        }
    }

    // ---- promises 61, 62

    private void image() {
        kit.promise(61, "IMAGE k (0 .. 2) keeps the HOUSE, and acts: 0.");
        LampRounds x = TestKit.told(FULL);
        for (int i = 0; i < 30; i++) {
            x.visit(3, i);
        }
        String full = EdgeKit.state(x);
        kit.due("image(0), thirty acts", x.image(0), 0);
        kit.due("it stays as it was", EdgeKit.state(x).equals(full) ? 1 : 0, 1);
        TestKit.tell(x, ONE);
        x.rate(0, 7);
        x.nods(5);
        kit.due("image(2)", x.image(2), 0);
        x.anew();
        x.rate(0, 8);
        x.back(0);
        kit.due("IMAGE 0", EdgeKit.state(x).equals(full) ? 1 : 0, 1);
        x.back(2);
        counts(x, 0, 5, 8, 2, 0, 0, 1, 1, 4);
        kit.due("the worth then", x.room(0, 1), 7);
        kit.due("age(0, 0, 5), he nods", x.age(0, 0, 5), 1);
        kit.due("image(0), in place of another", x.image(0), 0);
        x.house();
        x.back(0);
        counts(x, 0, 5, 8, 2, 0, 0, 1, 1, 4);
        kit.promise(61, "-2: no such k.");
        int[] none = {-1, 3, MIN, MAX};
        for (int k : none) {
            kit.due("image(" + k + ")", x.image(k), -2);
        }
        LampRounds y = TestKit.told(ONE);
        y.image(3);
        y.image(-1);
        for (int k = 0; k < 3; k++) {
            kit.due("back(" + k + ") has nothing still", y.back(k), -6);
        }
    }

    private void back() {
        kit.promise(62, "It is as IMAGE k has it: 0.");
        LampRounds x = TestKit.told(FULL);
        for (int k = 0; k < 3; k++) {
            x.visit(1, k);
            kit.due("image(" + k + ")", x.image(k), 0);
        }
        TestKit.tell(x, ONE);
        kit.due("states() of ONE", x.states(), 0);
        kit.due("ring() of ONE", x.ring(), -1);
        kit.due("longer(1) of ONE", x.longer(1), -1);
        x.feed(0x20202020, 0x20202020, 0x20202020, 0x20202020, 0x20202020);
        x.row(1, 1, 1);
        for (int k = 2; k >= 0; k--) {
            kit.due("back(" + k + ")", x.back(k), 0);
            counts(x, 3, 10, 30, 4, 6, 5, 12, k + 1, 17, 20, 1);
        }
        kit.due("far(0, 3)", x.far(0, 3), 1);
        kit.due("states()", x.states(), 16384);
        kit.due("ring()", x.ring(), 1);
        kit.due("longer(1)", x.longer(1), 0);
        x.nods(7);
        x.rate(0, 1);
        kit.due("count(7)", x.count(7), 2);
        kit.due("back(0) again", x.back(0), 0);
        kit.due("count(7), what was done since is not in it", x.count(7), 1);
        x.anew();
        x.rate(0, 1);
        kit.due("room(0, 1)", x.room(0, 1), 1);
        kit.due("back(0) again", x.back(0), 0);
        kit.due("room(0, 1), as it was kept", x.room(0, 1), 99);
        // an image of no HOUSE is one
        LampRounds y = new LampRounds();
        kit.due("image(1) of no HOUSE", y.image(1), 0);
        TestKit.tell(y, ONE);
        y.nods(0);
        kit.due("back(1)", y.back(1), 0);
        counts(y, 0, 0, 0, 0, 0, 0, 0, 0, 0);
        kit.due("dark(0)", y.dark(0), -2);
        kit.promise(62, "-2: no such k");
        LampRounds z = TestKit.told(ONE);
        z.image(0);
        z.image(2);
        z.nods(0);
        int[] none = {-1, 3, MIN, MAX};
        for (int k : none) {
            kit.due("back(" + k + ")", z.back(k), -2);
        }
        kit.refused(z, "back(3)", () -> z.back(3), -2);
        kit.refused(z, "back(-1)", () -> z.back(-1), -2);
        kit.promise(62, "-6: it has nothing.");
        kit.refused(z, "back(1)", () -> z.back(1), -6);
        for (int k = 0; k < 3; k++) {
            kit.due("back(" + k + ") of a new object", new LampRounds().back(k), -6);
        }
    }

    // ---- promises 63 to 65

    private void row() {
        kit.promise(63, "A SLOT (0 .. 3) has a row of n numbers of a WIDTH, all 0 (in place of another one): 0.");
        for (int width = 0; width < 4; width++) {
            LampRounds x = TestKit.told(ONE);
            fill(x, 3, width, fitting(60));
            kit.due("row(3, " + width + ", 60)", x.row(3, width, 60), 0);
            has(x, 3, new long[60]);
            fill(x, 3, width, fitting(60));
            kit.due("row(3, " + width + ", 3)", x.row(3, width, 3), 0);
            has(x, 3, 0, 0, 0);
            kit.due("row(3, " + width + ", 60)", x.row(3, width, 60), 0);
            has(x, 3, new long[60]);
            kit.due("row(3, " + width + ", 0)", x.row(3, width, 0), 0);
            has(x, 3);
            kit.due("count(10)", x.count(10), 1);
        }
        LampRounds x = TestKit.told(ONE);
        x.row(0, 3, 3);
        x.row(1, 0, 3);
        kit.due("paste, another WIDTH", x.paste(0, 0, 1, 0, 3), -8);
        x.row(0, 0, 3);
        kit.due("paste, the WIDTH of the row in place", x.paste(0, 0, 1, 0, 3), 0);
    }

    private void rowRefused() {
        kit.promise(63, "-2: there is no such SLOT");
        LampRounds x = TestKit.told(ONE);
        for (int slot : NO_SLOTS) {
            kit.due("row(" + slot + ", 0, 3)", x.row(slot, 0, 3), -2);
        }
        kit.due("count(10)", x.count(10), 0);
        kit.promise(63, "or WIDTH (0 .. 3)");
        fill(x, 0, 3, fitting(6));
        for (int width : NO_SLOTS) {
            kit.due("row(0, " + width + ", 3)", x.row(0, width, 3), -2);
            kit.due("row(1, " + width + ", 3)", x.row(1, width, 3), -2);
        }
        has(x, 0, fitting(6));
        kit.due("count(10)", x.count(10), 1);
        kit.promise(63, "or n is above 60");
        kit.due("row(0, 3, 61)", x.row(0, 3, 61), -2);
        kit.due("row(0, 3, max)", x.row(0, 3, MAX), -2);
        kit.due("row(1, 0, 61)", x.row(1, 0, 61), -2);
        has(x, 0, fitting(6));
        kit.due("count(10)", x.count(10), 1);
        kit.due("row(1, 0, 60)", x.row(1, 0, 60), 0);
        kit.promise(63, "-3, and the SLOT stays: n is below 0.");
        kit.due("row(0, 3, -1)", x.row(0, 3, -1), -3);
        kit.due("row(0, 0, min)", x.row(0, 0, MIN), -3);
        has(x, 0, fitting(6));
        kit.due("row(2, 0, -1) of nothing", x.row(2, 0, -1), -3);
        kit.due("SLOT 2 has nothing still", x.write(2, 0, 0), -6);
        kit.due("count(10)", x.count(10), 2);
        kit.due("row(0, 3, 0)", x.row(0, 3, 0), 0);
        has(x, 0);
        kit.due("row(4, 0, -1), no such SLOT", x.row(4, 0, -1), -2);
        kit.due("row(0, 4, -1), no such WIDTH", x.row(0, 4, -1), -2);
    }

    private void write() {
        kit.promise(64, "Number i of the SLOT's row is v, cut to its WIDTH: 0.");
        for (int width = 0; width < 4; width++) {
            LampRounds x = TestKit.told(ONE);
            x.row(2, width, 60);
            kit.due("write(2, 59, 1), the last", x.write(2, 59, 1), 0);
            kit.due("begins(2), AGE 1 of 0 at 0", x.begins(2), 0);
            kit.due("write(2, 57, 1)", x.write(2, 57, 1), 0);
            kit.due("begins(2), AGE 1 of 1 at 0", x.begins(2), 1);
            // as many bytes as it has, the rest cut away: 1 is left of each
            x.row(2, width, 3);
            long beyond = width == 3 ? 0 : 1L << (8 << width);
            long[] ones = {1, beyond + 1, 1 - beyond, 5 * beyond + 1};
            for (long v : ones) {
                x.write(2, 0, 1);
                x.write(2, 2, 0);
                kit.due("write(2, 2, " + v + ")", x.write(2, 2, v), 0);
                kit.due("begins(2), cut to 1", x.begins(2), 1);
            }
            long[] none = {beyond - 1, -1, Long.MAX_VALUE, 1L << (8 << width) - 1};
            for (long v : none) {
                kit.due("write(2, 2, " + v + ")", x.write(2, 2, v), 0);
                kit.due("begins(2), no AGE", x.begins(2), -2);
            }
            x.write(2, 0, 0);
            kit.due("write(2, 2, min)", x.write(2, 2, Long.MIN_VALUE), 0);
            kit.due("begins(2), cut to 0, or no AGE", x.begins(2), width == 3 ? -2 : 1);
        }
        kit.promise(64, "-2: there is no such SLOT");
        LampRounds x = TestKit.told(ONE);
        for (int slot : NO_SLOTS) {
            kit.due("write(" + slot + ", 0, 0)", x.write(slot, 0, 0), -2);
        }
        kit.promise(64, "-6: it has nothing");
        x.row(1, 0, 3);
        kit.due("write(0, 0, 0)", x.write(0, 0, 0), -6);
        kit.due("write(0, -1, 0)", x.write(0, -1, 0), -6);
        kit.due("write(3, 60, 0)", x.write(3, 60, 0), -6);
        kit.due("count(10)", x.count(10), 1);
        kit.promise(64, "-7: there is no such number.");
        fill(x, 1, 2, fitting(6));
        int[] none = {-1, 6, 59, 60, MIN, MAX};
        for (int i : none) {
            kit.due("write(1, " + i + ", 1)", x.write(1, i, 1), -7);
        }
        has(x, 1, fitting(6));
        x.row(0, 0, 0);
        kit.due("write(0, 0, 1), a row of none", x.write(0, 0, 1), -7);
        x.row(0, 0, 60);
        kit.due("write(0, 60, 1), a row of sixty", x.write(0, 60, 1), -7);
        has(x, 0, new long[60]);
    }

    private void paste() {
        kit.promise(65, "So many numbers of a SLOT's row, from one on, are put to another one's (or its own), from one on, as they were: 0.");
        for (int width = 0; width < 4; width++) {
            LampRounds x = TestKit.told(ONE);
            fill(x, 0, width, fitting(60));
            x.row(3, width, 60);
            kit.due("paste(0, 0, 3, 0, 60), all", x.paste(0, 0, 3, 0, 60), 0);
            has(x, 3, fitting(60));
            has(x, 0, fitting(60));
        }
        LampRounds x = TestKit.told(ONE);
        fill(x, 0, 3, 0, 0, 0, 1, 4, 5);
        fill(x, 1, 3, 1, 2, 9);
        kit.due("paste(0, 5, 1, 2, 1), the last to the last", x.paste(0, 5, 1, 2, 1), 0);
        kit.due("begins(1) of 1 2 5", x.begins(1), 0);
        kit.due("paste(0, 3, 1, 0, 3)", x.paste(0, 3, 1, 0, 3), 0);
        has(x, 1, 1, 4, 5);
        x.write(0, 5, 6);
        has(x, 1, 1, 4, 5);
        // none, at the end of both rows as anywhere
        kit.due("paste(0, 6, 1, 3, 0)", x.paste(0, 6, 1, 3, 0), 0);
        kit.due("paste(0, 0, 1, 0, 0)", x.paste(0, 0, 1, 0, 0), 0);
        has(x, 1, 1, 4, 5);
        x.row(2, 3, 0);
        kit.due("paste(2, 0, 2, 0, 0), rows of none", x.paste(2, 0, 2, 0, 0), 0);
        kit.due("paste(2, 0, 1, 3, 0), of a row of none", x.paste(2, 0, 1, 3, 0), 0);
        // its own, forward and backward
        fill(x, 0, 3, 1, 3, 4, 9, 9, 9);
        kit.due("paste(0, 0, 0, 3, 3)", x.paste(0, 0, 0, 3, 3), 0);
        has(x, 0, 1, 3, 4, 1, 3, 4);
        fill(x, 0, 3, 1, 0, 1, 2, 3, 5);
        kit.due("paste(0, 0, 0, 1, 3), over itself", x.paste(0, 0, 0, 1, 3), 0);
        x.write(0, 2, 2);
        has(x, 0, 1, 1, 2, 1, 3, 5);
        x.write(0, 5, 4);
        has(x, 0, 1, 1, 2, 1, 3, 4);
        fill(x, 0, 3, 9, 1, 2, 3, 1, 6);
        kit.due("paste(0, 1, 0, 0, 5), over itself", x.paste(0, 1, 0, 0, 5), 0);
        x.write(0, 4, 5);
        has(x, 0, 1, 2, 3, 1, 5, 6);
        kit.due("paste(0, 0, 0, 0, 6), to where they are", x.paste(0, 0, 0, 0, 6), 0);
        has(x, 0, 1, 2, 3, 1, 5, 6);
    }

    private void pasteRefused() {
        kit.promise(65, "-2: there is no such SLOT");
        LampRounds x = TestKit.told(ONE);
        fill(x, 0, 1, fitting(6));
        fill(x, 1, 1, fitting(3));
        for (int slot : NO_SLOTS) {
            kit.due("paste(" + slot + ", 0, 0, 0, 0)", x.paste(slot, 0, 0, 0, 0), -2);
            kit.due("paste(0, 0, " + slot + ", 0, 0)", x.paste(0, 0, slot, 0, 0), -2);
            kit.due("paste(2, 0, " + slot + ", 0, 0)", x.paste(2, 0, slot, 0, 0), -2);
        }
        kit.promise(65, "-6: one has nothing");
        kit.due("paste(0, 0, 2, 0, 0)", x.paste(0, 0, 2, 0, 0), -6);
        kit.due("paste(2, 0, 0, 0, 0)", x.paste(2, 0, 0, 0, 0), -6);
        kit.due("paste(2, 0, 3, 0, 0)", x.paste(2, 0, 3, 0, 0), -6);
        kit.due("paste(2, 0, 2, 0, 0)", x.paste(2, 0, 2, 0, 0), -6);
        kit.due("paste(0, 9, 3, -1, -1)", x.paste(0, 9, 3, -1, -1), -6);
        kit.promise(65, "-8: they are not of one WIDTH");
        for (int width = 0; width < 4; width++) {
            x.row(3, width, 6);
            kit.due("paste(0, 0, 3, 0, 6), WIDTH 1 to " + width, x.paste(0, 0, 3, 0, 6), width == 1 ? 0 : -8);
            kit.due("paste(3, 0, 0, 0, 6), WIDTH " + width + " to 1", x.paste(3, 0, 0, 0, 6), width == 1 ? 0 : -8);
            kit.due("paste(0, 0, 3, 0, 0), WIDTH 1 to " + width, x.paste(0, 0, 3, 0, 0), width == 1 ? 0 : -8);
            kit.due("paste(0, 9, 3, -1, -1), WIDTH 1 to " + width, x.paste(0, 9, 3, -1, -1), width == 1 ? -7 : -8);
        }
        has(x, 0, fitting(6));
        kit.promise(65, "-7, and nothing happens: some are beyond their rows");
        fill(x, 0, 1, 0, 0, 0, 0, 0, 0);
        int[][] beyond = {{0, 0, 4}, {0, 0, 7}, {4, 0, 3}, {5, 0, 2}, {6, 0, 1}, {0, 1, 3}, {0, 2, 2}, {0, 3, 1}, {0, 0, MAX},
            {1, 1, MAX}, {MAX, 0, 1}, {0, MAX, 1}, {MAX, MAX, MAX}};
        for (int[] b : beyond) {
            kit.due("paste(0, " + b[0] + ", 1, " + b[1] + ", " + b[2] + ")", x.paste(0, b[0], 1, b[1], b[2]), -7);
        }
        has(x, 1, fitting(3));
        int[][] own = {{0, 1, 6}, {1, 0, 6}, {0, 5, 2}, {0, 0, 7}};
        fill(x, 0, 1, fitting(6));
        for (int[] b : own) {
            kit.due("paste(0, " + b[0] + ", 0, " + b[1] + ", " + b[2] + ")", x.paste(0, b[0], 0, b[1], b[2]), -7);
        }
        has(x, 0, fitting(6));
        kit.promise(65, "or a place or n is below 0.");
        x.row(0, 1, 6);
        int[][] below = {{-1, 0, 1}, {0, -1, 1}, {0, 0, -1}, {-1, 0, 0}, {0, -1, 0}, {-1, -1, 2}, {MIN, 0, 1}, {0, MIN, 1},
            {0, 0, MIN}, {MIN, MIN, MIN}, {3, 3, -3}, {1, 1, -1}};
        for (int[] b : below) {
            kit.due("paste(0, " + b[0] + ", 1, " + b[1] + ", " + b[2] + ")", x.paste(0, b[0], 1, b[1], b[2]), -7);
        }
        has(x, 1, fitting(3));
    }
}
