/** Promises 41 to 49: from where he began, by which LAW, the GAME; answers worked out by hand. */
public final class SeenTest {
    private static final TestKit KIT = new TestKit();
    private static final String TWO = " odds 0 minutes 6;room wait 7 worth 1;room wait 7 worth 1;way 0 1;";

    public static void main(String[] args) {
        beginnings();
        windows();
        refusals();
        widths();
        noRound();
        noRooms();
        laws();
        game();
        KIT.close("SeenTest");
    }

    private static void beginnings() {
        KIT.part("41, 42 begins, begun");
        // turned to each place: 0 0 1 .., 0 1 0 .., 1 0 0 ..; AGE of 1 at MINUTE 1 is 2, 0, 1
        LampRounds x = TestKit.told("house law 0" + TWO + "round 0 0 1;");
        TestKit.row(x, 0);
        KIT.due("begins of an empty row", x.begins(0), 3);
        KIT.due("begun of an empty row", x.begun(0), 0);
        for (int age = 0; age <= 3; age++) {
            TestKit.row(x, 1, 1, 1, age);
            KIT.due("begins, AGE " + age, x.begins(1), age == 3 ? 0 : 1);
            KIT.due("begun, AGE " + age, x.begun(1), new int[] {1, 2, 0, -1}[age]);
        }
        TestKit.row(x, 1, 0, 0, 0);
        KIT.due("begins", x.begins(1), 2);
        KIT.due("begun", x.begun(1), 0);
        TestKit.row(x, 1, 0, 0, 1);
        KIT.due("begun at the last", x.begun(1), 2);
        TestKit.row(x, 1, 0, 0, 0, 1, 1, 0);
        KIT.due("begins by two", x.begins(1), 1);
        KIT.due("begun by two", x.begun(1), 1);
        TestKit.row(x, 1, 0, 0, 0, 1, 1, 1);
        KIT.due("begins by two that don't meet", x.begins(1), 0);
        TestKit.row(x, 1, 0, 0, 99);
        KIT.due("begins, AGE 99 that is none", x.begins(1), 0);
        // acts as now
        x.nods(0);
        TestKit.row(x, 1, 0, 0, 1);
        KIT.due("begins after a nod", x.begins(1), 3);
        // a flame that is out is 99
        x = TestKit.told("house law 0 odds 0 minutes 6;room wait 1 worth 1;room wait 1 worth 1;way 0 1;round 0 0 1;");
        TestKit.row(x, 2, 1, 2, 99);
        KIT.due("begins of one out", x.begins(2), 2);
        KIT.due("begun of one out", x.begun(2), 0);
    }

    private static void windows() {
        KIT.part("43, 44 window, leaves");
        LampRounds x = TestKit.told("house law 0" + TWO + "round 0 0 1;");
        TestKit.row(x, 0);
        // AGES of 0 by the three places: at 0: 0 0 1, at 1: 0 1 0, at 2: 1 0 0; of 1: at 0: 1 1 0, at 1: 2 0 1
        KIT.due("window", x.window(0), 101);
        KIT.due("leaves", x.leaves(0), 1);
        TestKit.row(x, 0, 0, 0, 0);
        KIT.due("window of two", x.window(0), 1);
        KIT.due("leaves of two", x.leaves(0), 1);
        TestKit.row(x, 0, 0, 0, 1);
        KIT.due("window of one", x.window(0), -1);
        KIT.due("leaves of one", x.leaves(0), 1);
        TestKit.row(x, 0, 0, 0, 7);
        KIT.due("window of none", x.window(0), -1);
        KIT.due("leaves of none", x.leaves(0), 0);
        // all places alike: nothing tells more
        x = TestKit.told("house law 0" + TWO + "round 0 0 0 0;");
        TestKit.row(x, 0);
        KIT.due("begins, all alike", x.begins(0), 4);
        KIT.due("window, all alike", x.window(0), -1);
        KIT.due("leaves, all alike", x.leaves(0), 4);
        // four places, in one MINUTE two and two
        x = TestKit.told("house law 0 odds 0 minutes 1;room wait 7 worth 1;room wait 7 worth 1;way 0 1;round 0 1 0 1;");
        TestKit.row(x, 3);
        KIT.due("window, two and two", x.window(3), 0);
        KIT.due("leaves, two and two", x.leaves(3), 2);
    }

    private static void ask(LampRounds x, int slot, int want) {
        KIT.due("begins(" + slot + ")", x.begins(slot), want);
        KIT.due("begun(" + slot + ")", x.begun(slot), want);
        KIT.due("window(" + slot + ")", x.window(slot), want);
        KIT.due("leaves(" + slot + ")", x.leaves(slot), want);
        KIT.due("laws(" + slot + ")", x.laws(slot), want);
    }

    private static void refusals() {
        KIT.part("41 to 45 refusals");
        LampRounds none = new LampRounds();
        ask(none, 0, -2);
        LampRounds x = TestKit.told("house law 0" + TWO + "round 0 0 1;");
        ask(x, 0, -6);
        ask(x, 3, -6);
        ask(x, 4, -2);
        ask(x, -1, -2);
        ask(x, Integer.MIN_VALUE, -2);
        long[][] wrong = {{0}, {0, 0}, {0, 0, 0, 0}, {2, 0, 0}, {-1, 0, 0}, {0, 6, 0}, {0, -1, 0}, {0, 0, 100}, {0, 0, -1},
            {0, 0, 0, 2, 0, 0}, {0, 0, 5, 0, 0, 100}, {0, 0, 5, 0, 0}, {1L << 32, 0, 0}, {0, 1L << 32, 0}, {0, 0, 1L << 32},
            {Long.MIN_VALUE, 0, 0}, {0, 0, Long.MAX_VALUE}};
        for (long[] row : wrong) {
            TestKit.row(x, 2, row);
            KIT.part("41 to 45 refusals of " + java.util.Arrays.toString(row));
            ask(x, 2, -2);
        }
        KIT.part("41 to 45 no HOUSE is asked ahead of nothing");
        x.house();
        ask(x, 2, -2);
        ask(x, 1, -2);
    }

    private static void widths() {
        KIT.part("41 rows of each WIDTH");
        LampRounds x = TestKit.told("house law 0" + TWO + "round 0 0 1;");
        for (int width = 0; width < 4; width++) {
            x.row(width, width, 3);
            x.write(width, 0, 1);
            x.write(width, 1, 1);
            x.write(width, 2, 2);
            KIT.due("begun, WIDTH " + width, x.begun(width), 0);
            x.write(width, 2, 0xfffffffffffffff0L);
            KIT.due("begun of a number below 0, WIDTH " + width, x.begun(width), -2);
            x.write(width, 2, 200);
            KIT.due("begun of 200, WIDTH " + width, x.begun(width), -2);
        }
        x.row(0, 0, 60);
        KIT.due("sixty numbers, all AGE 0 of 0 at 0", x.begins(0), 2);
        x.write(0, 2, 257);
        KIT.due("cut to 1", x.begins(0), 0);
        x.write(0, 2, 256);
        KIT.due("cut to 0", x.begins(0), 2);
    }

    private static void noRound() {
        KIT.part("41 to 45 no ROUND");
        LampRounds x = TestKit.told("house law 1" + TWO);
        TestKit.row(x, 0);
        KIT.due("begins", x.begins(0), 0);
        KIT.due("begun", x.begun(0), -1);
        KIT.due("window", x.window(0), -1);
        KIT.due("leaves", x.leaves(0), 0);
        KIT.due("laws", x.laws(0), 15);
        TestKit.row(x, 0, 1, 3, 0);
        KIT.due("laws, by LAW 3 he is near", x.laws(0), 8);
        TestKit.row(x, 0, 1, 3, 4);
        KIT.due("laws, by others not", x.laws(0), 7);
    }

    private static void noRooms() {
        KIT.part("41 to 49 no rooms");
        LampRounds x = TestKit.told("house law 1 odds 0 minutes 6;");
        TestKit.row(x, 0);
        KIT.due("begins", x.begins(0), 0);
        KIT.due("laws", x.laws(0), 15);
        KIT.due("by(2)", x.by(2), -1);
        KIT.due("law()", x.law(), 0);
        KIT.due("rests", x.rests(0, 1), -2);
        KIT.due("gets", x.gets(0, 1, 0, 0), -1000);
    }

    private static void laws() {
        KIT.part("45 to 47 laws, by, law");
        // 0 0 1: AGE of 1 is 1 2 then by LAW 0: 0, 1: 1, 2: 2; by 3: 0 0 0
        LampRounds x = TestKit.told("house law 3" + TWO + "round 0 0 1;");
        int[][] ages = {{0, 9}, {1, 2}, {2, 4}, {3, 0}};
        for (int[] a : ages) {
            TestKit.row(x, 0, 1, 2, a[0]);
            KIT.due("laws, AGE " + a[0], x.laws(0), a[1]);
        }
        // 1 is alone; 0 is looked at; it goes out at 3 by LAW 0, 1, 2, never by 3 with a way
        x = TestKit.told("house law 1 odds 0 minutes 6;room wait 7 worth 1;room wait 2 worth 1;way 0 1;round 0;");
        int[] by = {2, 2, 2, -1};
        for (int law = 0; law < 4; law++) {
            KIT.due("by(" + law + ")", x.by(law), by[law]);
        }
        KIT.due("law()", x.law(), 3);
        KIT.due("the LAW told stays", x.count(0), 1);
        KIT.due("dark(0) stays", x.dark(0), 2);
        KIT.due("by(4)", x.by(4), -2);
        KIT.due("by(-1)", x.by(-1), -2);
        x = TestKit.told("house law 1 odds 0 minutes 6;room wait 7 worth 1;room wait 2 worth 1;round 0;");
        KIT.due("law(), the least of several", x.law(), 0);
        x = TestKit.told("house law 2 odds 0 minutes 30;room wait 1 worth 1;room wait 1 worth 1;way 0 1;round 0 1;");
        // LAW 0: for ever; LAW 2: the flame of 1 is 1, stays 1, then 2
        KIT.due("by(0)", x.by(0), -1);
        KIT.due("by(2)", x.by(2), 2);
        KIT.due("law(), never is the latest", x.law(), 0);
        LampRounds none = new LampRounds();
        KIT.due("by(0), no house", none.by(0), -2);
        KIT.due("law(), no house", none.law(), -2);
    }

    private static void game() {
        KIT.part("48, 49 the GAME");
        LampRounds x = TestKit.told("house law 0 odds 0 minutes 6;room wait 3 worth 1;room wait 3 worth 1;way 0 1;round 0;");
        // waits 3 3: at 0 1 (0: 2, 1: 3), then 0, 1 ..: 0, 1, 0, 1, 0, 1; each is looked at three times
        KIT.due("gets(0, 1, 0, 0)", x.gets(0, 1, 0, 0), 3);
        KIT.due("gets(1, 0, 0, 0)", x.gets(1, 0, 0, 0), 3);
        // waits 2 3: at 0: 2 2, the first: stays; 2 1: to 1; 1 3: to 0; 2 2: stays; 2 1: to 1
        KIT.due("gets(0, 1, 1, 0)", x.gets(0, 1, 1, 0), 1);
        KIT.due("gets(1, 0, 0, 1)", x.gets(1, 0, 0, 1), 2);
        // waits 3 2: at 0: 3 1, to 1: 2 2, to 0: 3 1, to 1 ..: three times each
        KIT.due("gets(0, 1, 0, 1)", x.gets(0, 1, 0, 1), 3);
        KIT.due("gets(1, 0, 1, 0)", x.gets(1, 0, 1, 0), 0);
        KIT.due("gets(0, 1, 1, 1)", x.gets(0, 1, 1, 1), 0);
        KIT.due("rests(0, 1)", x.rests(0, 1), 1);
        KIT.due("the waits told stay", x.room(0, 0), 3);
        int[][] wrong = {{0, 0, 0, 0}, {0, 2, 0, 0}, {2, 0, 0, 0}, {-1, 0, 0, 0}, {0, -1, 0, 0}, {0, 1, 2, 0}, {0, 1, 0, 2},
            {0, 1, -1, 0}, {0, 1, 0, -1}};
        for (int[] w : wrong) {
            KIT.due("gets wrong", x.gets(w[0], w[1], w[2], w[3]), -1000);
        }
        KIT.due("rests(0, 0)", x.rests(0, 0), -2);
        KIT.due("rests(0, 2)", x.rests(0, 2), -2);
        KIT.due("rests(-1, 0)", x.rests(-1, 0), -2);
        LampRounds none = new LampRounds();
        KIT.due("rests, no house", none.rests(0, 1), -2);
        KIT.due("gets, no house", none.gets(0, 1, 0, 0), -1000);
        // a wait of 1 is told as 1; hurrying costs all the same
        x = TestKit.told("house law 0 odds 0 minutes 6;room wait 1 worth 1;room wait 1 worth 1;round 0;");
        KIT.due("gets(0, 1, 0, 0) of waits 1", x.gets(0, 1, 0, 0), 6);
        KIT.due("gets(0, 1, 1, 0) of waits 1", x.gets(0, 1, 1, 0), 3);
        KIT.due("gets(1, 0, 1, 1) of waits 1", x.gets(1, 0, 1, 1), -3);
        KIT.due("rests(0, 1) of waits 1", x.rests(0, 1), 1);
        hurrying();
    }

    /** A long night in which it pays to hurry: bits tell which of the two does. */
    private static void hurrying() {
        LampRounds x = TestKit.told("house law 0 odds 0 minutes 30;room wait 2 worth 1;room wait 3 worth 1;way 0 1;round 0;");
        for (int pair = 0; pair < 4; pair++) {
            int one = pair & 1;
            int two = pair >> 1;
            boolean rest = x.gets(0, 1, one, two) >= x.gets(0, 1, 1 - one, two)
                && x.gets(1, 0, two, one) >= x.gets(1, 0, 1 - two, one);
            KIT.due("rests(0, 1) of pair " + pair, x.rests(0, 1) >> pair & 1, rest ? 1 : 0);
            boolean turned = (x.rests(1, 0) >> (two | one << 1) & 1) == 1;
            KIT.due("rests(1, 0) of pair " + pair, turned ? 1 : 0, rest ? 1 : 0);
        }
    }
}
