import java.util.function.ToIntFunction;

/** Boundary cases of Terms VII and VIII, and of promises 41 to 49. */
final class SeenEdges {
    private static final String TWO = "house law 0 odds 5 minutes 6;room wait 7 worth 1;room wait 7 worth 1;way 0 1;";
    /** Twelve places, the last one alone in ROOM 1. */
    private static final String TWELVE = TWO + "round 0 0 0 0 0 0 0 0 0 0 0 1;";
    private static final String EMPTY = "house law 0 odds 5 minutes 6;";

    private final EdgeKit kit;

    private SeenEdges(EdgeKit kit) {
        this.kit = kit;
    }

    static void run(EdgeKit kit) {
        SeenEdges edges = new SeenEdges(kit);
        edges.turned();
        edges.begins();
        edges.begun();
        edges.window();
        edges.leaves();
        edges.laws();
        edges.by();
        edges.law();
        edges.hurrying();
        edges.rests();
        edges.gets();
    }

    // ---- what these tests share

    private interface Ask {
        int of(LampRounds x, int slot);
    }

    private static LampRounds seen(String text, long... row) {
        LampRounds x = TestKit.told(text);
        TestKit.row(x, 0, row);
        return x;
    }

    private void noSlot(String call, Ask ask) {
        LampRounds x = TestKit.told(TWELVE);
        int[] none = {-1, 4, Integer.MIN_VALUE, Integer.MAX_VALUE};
        for (int slot : none) {
            kit.due(call + "(" + slot + ")", ask.of(x, slot), -2);
        }
        for (int slot = 0; slot < 4; slot++) {
            TestKit.row(x, slot, 0, 0, 0);
            kit.due(call + "(" + slot + ")", ask.of(x, slot) == -2 ? 1 : 0, 0);
        }
    }

    private void noHouse(String call, Ask ask) {
        kit.due(call + "(0) of a new object", ask.of(new LampRounds(), 0), -2);
        LampRounds x = new LampRounds();
        TestKit.row(x, 0);
        TestKit.row(x, 1, 0, 0, 0);
        for (int slot = 0; slot < 3; slot++) {
            kit.due(call + "(" + slot + ") without a HOUSE", ask.of(x, slot), -2);
        }
        x = seen(TWELVE, 0, 0, 0);
        x.house();
        kit.due(call + "(0), the HOUSE gone", ask.of(x, 0), -2);
    }

    private void noSuchNumber(String call, Ask ask) {
        long[][] none = {{-1, 0, 0}, {2, 0, 0}, {0, -1, 0}, {0, 6, 0}, {0, 0, -1}, {0, 0, 100}, {4, 0, 0}, {0, 30, 0},
            {0, 0, 0, 0, 0, 100}, {0, 0, 0, 2, 0, 0}, {0, 0, 0, 0, 6, 0}, {0, 0, 7, 0, 0, -1}, {Long.MIN_VALUE, 0, 0},
            {1L << 32, 0, 0}, {0, 1L << 32, 0}, {0, 0, 1L << 32}, {0, Long.MAX_VALUE, 0}, {0, 0, Long.MIN_VALUE}};
        for (long[] row : none) {
            kit.due(call + " of " + java.util.Arrays.toString(row), ask.of(seen(TWELVE, row), 0), -2);
        }
        long[][] last = {{1, 0, 0}, {0, 5, 0}, {0, 0, 99}, {1, 5, 99}, {0, 0, 0, 1, 5, 99}};
        for (long[] row : last) {
            kit.due(call + " of " + java.util.Arrays.toString(row), ask.of(seen(TWELVE, row), 0) == -2 ? 1 : 0, 0);
        }
        long[] sixty = new long[60];
        kit.due(call + " of sixty", ask.of(seen(TWELVE, sixty), 0) == -2 ? 1 : 0, 0);
        sixty[59] = 100;
        kit.due(call + " of sixty, the last is none", ask.of(seen(TWELVE, sixty), 0), -2);
        sixty[59] = 0;
        sixty[57] = 2;
        kit.due(call + " of sixty, the last ROOM is none", ask.of(seen(TWELVE, sixty), 0), -2);
        kit.due(call + " without ROOMS, a row of three", ask.of(seen(EMPTY, 0, 0, 0), 0), -2);
        kit.due(call + " without ROOMS, an empty row", ask.of(seen(EMPTY), 0) == -2 ? 1 : 0, 0);
    }

    private void notThreeEach(String call, Ask ask) {
        int[] none = {1, 2, 4, 5, 58, 59};
        for (int n : none) {
            kit.due(call + " of " + n + " numbers", ask.of(seen(TWELVE, new long[n]), 0), -2);
            kit.due(call + " of " + n + " numbers, without ROOMS", ask.of(seen(EMPTY, new long[n]), 0), -2);
        }
        int[] fine = {0, 3, 6, 57, 60};
        for (int n : fine) {
            kit.due(call + " of " + n + " numbers", ask.of(seen(TWELVE, new long[n]), 0) == -2 ? 1 : 0, 0);
        }
    }

    private void nothing(String call, Ask ask) {
        LampRounds x = TestKit.told(TWELVE);
        for (int slot = 0; slot < 4; slot++) {
            kit.due(call + "(" + slot + ") of nothing", ask.of(x, slot), -6);
        }
        TestKit.row(x, 2);
        kit.due(call + "(2) of an empty row", ask.of(x, 2) == -6 ? 1 : 0, 0);
        kit.due(call + "(1) of nothing still", ask.of(x, 1), -6);
        kit.due(call + "(0) of nothing, without ROOMS", ask.of(TestKit.told(EMPTY), 0), -6);
        x.row(1, 0, -1);
        kit.due(call + "(1), a row refused", ask.of(x, 1), -6);
    }

    private void likewise(String call, Ask ask) {
        noSlot(call, ask);
        noHouse(call, ask);
        noSuchNumber(call, ask);
        notThreeEach(call, ask);
        nothing(call, ask);
    }

    // ---- VII, promises 41 to 45

    private void turned() {
        kit.term("VII", "MODE 0, acts as now, with the ROUND turned so that it begins at another of its places.");
        // ROOM 1 at MINUTE 0: from the last place; at MINUTE 1: from the one ahead; behind the last place is the first
        kit.due("begun, in 1 at 0", seen(TWELVE, 1, 0, 0).begun(0), 11);
        kit.due("begun, in 1 at 1", seen(TWELVE, 1, 1, 0).begun(0), 10);
        kit.due("begun, in 1 at 5", seen(TWELVE, 1, 5, 0).begun(0), 6);
        kit.due("begun, in 1 at 0, then in 0", seen(TWELVE, 1, 0, 0, 1, 1, 1, 0, 1, 0).begun(0), 11);
        kit.due("begins, in 1 at none", seen(TWELVE, 1, 5, 6).begins(0), 6);
        LampRounds x = seen(TWELVE, 1, 0, 1);
        kit.due("begins", x.begins(0), 11);
        x.nods(0);
        kit.due("begins with a nod", x.begins(0), 12);
        x.visit(1, 0);
        kit.due("begins with a visit", x.begins(0), 0);
        x.anew();
        kit.due("begins without them", x.begins(0), 11);
        // a WAY that is missing keeps him where he began
        x = seen("house law 0 odds 0 minutes 6;room wait 7 worth 1;room wait 7 worth 1;round 0 1;", 1, 5, 0);
        kit.due("begun, he stays", x.begun(0), 1);
    }

    private void begins() {
        kit.promise(41, "SEEN (VII): from how many places of the ROUND he can have begun by a SLOT's row, "
            + "three numbers each: a ROOM, a MINUTE, the AGE of its flame.");
        kit.due("begins of an empty row, all twelve", seen(TWELVE).begins(0), 12);
        kit.due("begins, eleven", seen(TWELVE, 1, 0, 1).begins(0), 11);
        kit.due("begins, one", seen(TWELVE, 1, 0, 0).begins(0), 1);
        kit.due("begins, none", seen(TWELVE, 1, 0, 2).begins(0), 0);
        kit.due("begins, AGE 99 of one that burns", seen(TWELVE, 1, 0, 99).begins(0), 0);
        kit.due("begins of one place", seen(TWO + "round 1;").begins(0), 1);
        kit.due("begins without a ROUND", seen(TWO).begins(0), 0);
        kit.due("begins without ROOMS", seen(EMPTY).begins(0), 0);
        String out = "house law 0 odds 0 minutes 3;room wait 1 worth 1;room wait 1 worth 1;way 0 1;round 0 0 1;";
        kit.due("begins, AGE 99 of one that is out", seen(out, 1, 1, 99).begins(0), 1);
        // twenty times three; one of them that does not fit is enough, the first or the last
        long[] sixty = new long[60];
        for (int i = 0; i < 20; i++) {
            sixty[3 * i] = 1;
            sixty[3 * i + 2] = 1;
        }
        kit.due("begins of sixty", seen(TWELVE, sixty).begins(0), 11);
        sixty[59] = 0;
        kit.due("begins of sixty, the last does not fit", seen(TWELVE, sixty).begins(0), 0);
        sixty[59] = 1;
        sixty[2] = 0;
        kit.due("begins of sixty, the first does not fit", seen(TWELVE, sixty).begins(0), 0);
        Ask ask = (x, slot) -> x.begins(slot);
        kit.promise(41, "-2: there is no such SLOT");
        noSlot("begins", ask);
        kit.promise(41, "no HOUSE");
        noHouse("begins", ask);
        kit.promise(41, "a number is none such (AGE 0 .. 99; asked last)");
        noSuchNumber("begins", ask);
        kit.promise(41, "not three each");
        notThreeEach("begins", ask);
        kit.promise(41, "-6: it has nothing.");
        nothing("begins", ask);
    }

    private void begun() {
        kit.promise(42, "The first such place.");
        kit.due("begun, the first of twelve", seen(TWELVE).begun(0), 0);
        kit.due("begun, the last of twelve", seen(TWELVE, 1, 0, 0).begun(0), 11);
        kit.due("begun, the second of several", seen(TWO + "round 0 1 0 1;", 1, 0, 0).begun(0), 1);
        kit.promise(42, "NONE: none");
        kit.due("begun, none", seen(TWELVE, 1, 0, 2).begun(0), -1);
        kit.due("begun without a ROUND", seen(TWO).begun(0), -1);
        kit.due("begun without ROOMS", seen(EMPTY).begun(0), -1);
        kit.promise(42, "-2, -6 likewise.");
        likewise("begun", (x, slot) -> x.begun(slot));
    }

    private void window() {
        kit.promise(43, "WINDOW: the ROOM and the MINUTE (100 times and) of which to know the AGE leaves fewest of these at worst");
        // of ROOM 1 at 5: AGES 0 .. 5 from 6 .. 11, and 6 from the six others; at 4 seven are left
        kit.due("window of twelve", seen(TWELVE).window(0), 105);
        kit.due("window of 0 0 1", seen(TWO + "round 0 0 1;").window(0), 101);
        kit.due("window, the last ROOM and MINUTE that can be", lastWindow().window(0), 329);
        kit.promise(43, "if fewer than now");
        kit.due("window of four alike", seen(TWO + "round 0 0 0 0;").window(0), -1);
        kit.due("window of one left", seen(TWELVE, 1, 0, 0).window(0), -1);
        kit.due("window of one place", seen(TWO + "round 0;").window(0), -1);
        // two left, told apart by one AGE more
        kit.due("window of two left", seen(TWO + "round 0 0 1;", 0, 0, 0).window(0), 1);
        kit.promise(43, "the first of several.");
        kit.due("window of 0 1", seen(TWO + "round 0 1;").window(0), 0);
        kit.due("window of 0 1 in one MINUTE", seen(TWO.replace("minutes 6", "minutes 1") + "round 0 1 0 1;").window(0), 0);
        // AGES of 0 and 1 tell the same: ROOM 0 goes ahead of 1, an earlier MINUTE ahead of a later one
        kit.due("window of 2 3", seen("house law 0 odds 0 minutes 2;room wait 7 worth 1;room wait 7 worth 1;room wait 7 worth 1;"
            + "room wait 7 worth 1;way 2 3;round 2 3;").window(0), 200);
        kit.promise(43, "NONE: none");
        kit.due("window, none fits", seen(TWELVE, 1, 0, 2).window(0), -1);
        LampRounds again = seen(TWELVE);
        kit.due("window, one is found", again.window(0), 105);
        TestKit.row(again, 1, 1, 0, 0);
        kit.due("window, none behind it", again.window(1), -1);
        kit.due("leaves, none behind it", again.leaves(1), 1);
        kit.due("window without a ROUND", seen(TWO).window(0), -1);
        kit.due("window without ROOMS", seen(EMPTY).window(0), -1);
        kit.promise(43, "-2, -6 likewise.");
        likewise("window", (x, slot) -> x.window(slot));
    }

    /** He nods at all MINUTES but the last; visitors keep the flame of 3 alone, so nothing else tells 3 2 from 2 3. */
    private static LampRounds lastWindow() {
        LampRounds x = seen("house law 0 odds 0 minutes 30;room wait 7 worth 1;room wait 7 worth 1;room wait 7 worth 1;"
            + "room wait 7 worth 1;way 2 3;visitor in 3 at 7;visitor in 3 at 14;visitor in 3 at 21;visitor in 3 at 28;round 3 2;");
        for (int t = 0; t < 29; t++) {
            x.nods(t);
        }
        return x;
    }

    private void leaves() {
        kit.promise(44, "How many it leaves at worst");
        kit.due("leaves of twelve", seen(TWELVE).leaves(0), 6);
        kit.due("leaves of 0 0 1", seen(TWO + "round 0 0 1;").leaves(0), 1);
        kit.due("leaves of 0 1 0 1 in one MINUTE", seen(TWO.replace("minutes 6", "minutes 1") + "round 0 1 0 1;").leaves(0), 2);
        kit.due("leaves of the last ROOM and MINUTE", lastWindow().leaves(0), 1);
        kit.promise(44, "(as now without)");
        kit.due("leaves of twelve alike", seen(TWO + "round 0 0 0 0 0 0 0 0 0 0 0 0;").leaves(0), 12);
        kit.due("leaves of one left", seen(TWELVE, 1, 0, 0).leaves(0), 1);
        kit.due("leaves, none fits", seen(TWELVE, 1, 0, 2).leaves(0), 0);
        kit.due("leaves without a ROUND", seen(TWO).leaves(0), 0);
        kit.due("leaves without ROOMS", seen(EMPTY).leaves(0), 0);
        kit.promise(44, "-2, -6 likewise.");
        likewise("leaves", (x, slot) -> x.leaves(slot));
    }

    private void laws() {
        kit.promise(45, "LAWS (0 .. 3) by which it is as such a row tells, the ROUND from its first place, as bits.");
        String three = TWO + "round 0 0 1;";
        // AGE of 1: 1 2, then by LAW 0 0, by 1 1, by 2 2; by 3 always 0
        kit.due("laws of an empty row", seen(three).laws(0), 15);
        kit.due("laws, 0 and 3", seen(three, 1, 2, 0).laws(0), 9);
        kit.due("laws, 0 alone", seen(three, 1, 0, 1, 1, 2, 0).laws(0), 1);
        kit.due("laws, 1 alone", seen(three, 1, 2, 1).laws(0), 2);
        kit.due("laws, 2 alone", seen(three, 1, 2, 2).laws(0), 4);
        kit.due("laws, 3 alone", seen(three, 1, 0, 0).laws(0), 8);
        kit.due("laws, none", seen(three, 1, 2, 3).laws(0), 0);
        kit.due("laws of AGE 99, none", seen(three, 1, 2, 99).laws(0), 0);
        // from the second place AGE of 1 at MINUTE 1 would be 0
        kit.due("laws, not from another place", seen(three, 1, 1, 0).laws(0), 8);
        kit.due("laws without a ROUND", seen(TWO, 1, 3, 4).laws(0), 7);
        kit.due("laws without ROOMS", seen(EMPTY).laws(0), 15);
        LampRounds x = seen(three, 1, 2, 0);
        x.visit(1, 2);
        kit.due("laws, acts as now", x.laws(0), 13);
        kit.due("the LAW told stays", x.count(0), 0);
        kit.promise(45, "-2, -6 likewise.");
        likewise("laws", (y, slot) -> y.laws(slot));
    }

    // ---- promises 46 to 49

    private void by() {
        kit.promise(46, "dark() of MODE 0 by a LAW in place of the one told.");
        for (int law = 0; law < 4; law++) {
            LampRounds x = TestKit.told("house law " + law + " odds 0 minutes 9;room wait 1 worth 1;room wait 1 worth 1;way 0 1;"
                + "round 0 1;");
            // 0 1: by LAW 1 AGES are 0 or 1; by LAW 2 they are 1 and stay, then 2
            kit.due("by(2)", x.by(2), 2);
            kit.due("by the LAW told", x.by(law), x.dark(0));
            kit.due("the LAW told stays", x.count(0), law);
        }
        kit.due("by(0) at the last MINUTE", TestKit.told(TWO.replace("minutes 6", "minutes 8")).by(0), 7);
        kit.promise(46, "NONE: at none");
        LampRounds x = TestKit.told("house law 2 odds 0 minutes 9;room wait 1 worth 1;room wait 1 worth 1;way 0 1;round 0 1;");
        kit.due("by(0)", x.by(0), -1);
        kit.due("by(1)", x.by(1), -1);
        kit.due("by(3)", x.by(3), -1);
        kit.due("by(0), one MINUTE short", TestKit.told(TWO.replace("minutes 6", "minutes 7")).by(0), -1);
        kit.due("by(0) without ROOMS", TestKit.told(EMPTY).by(0), -1);
        kit.promise(46, "-2: there is none such (0 .. 3)");
        int[] none = {-1, 4, Integer.MIN_VALUE, Integer.MAX_VALUE};
        for (int law : none) {
            kit.due("by(" + law + ")", x.by(law), -2);
            kit.due("by(" + law + ") without ROOMS", TestKit.told(EMPTY).by(law), -2);
        }
        kit.promise(46, "no HOUSE.");
        noHouse("by(0)", y -> y.by(0));
        noHouse("by(3)", y -> y.by(3));
    }

    private void noHouse(String call, ToIntFunction<LampRounds> ask) {
        kit.due(call + " of a new object", ask.applyAsInt(new LampRounds()), -2);
        LampRounds x = TestKit.told(TWELVE);
        kit.due(call + " with a HOUSE", ask.applyAsInt(x) == -2 ? 1 : 0, 0);
        x.house();
        kit.due(call + ", the HOUSE gone", ask.applyAsInt(x), -2);
    }

    private void law() {
        kit.promise(47, "The LAW by which it is latest (never is latest of all), the least of several.");
        String two = " odds 0 minutes 9;room wait 7 worth 1;room wait 2 worth 1;";
        kit.due("law(), all alike", TestKit.told("house law 3" + two).law(), 0);
        kit.due("law(), 3 never", TestKit.told("house law 0" + two + "way 0 1;").law(), 3);
        // 0 1: 0, 1, 3 never, 2 at 2
        kit.due("law(), the least of those that are never", TestKit.told("house law 2 odds 0 minutes 9;room wait 1 worth 1;"
            + "room wait 1 worth 1;way 0 1;round 0 1;").law(), 0);
        // looked at at 2 the flame of 1 goes out at 5 by LAW 0, 2, 3, at 4 by LAW 1
        kit.due("law(), 1 is sooner", TestKit.told("house law 1" + two + "visitor in 1 at 2;").law(), 0);
        LampRounds x = TestKit.told("house law 0" + two + "way 0 1;");
        x.nods(0);
        x.nods(1);
        kit.due("law(), two nods: 3 is the latest still", x.law(), 3);
        x.nods(2);
        kit.due("law(), three nods: by each at 2", x.law(), 0);
        kit.due("law() without ROOMS", TestKit.told(EMPTY).law(), 0);
        kit.promise(47, "-2: there is no HOUSE.");
        noHouse("law()", y -> y.law());
    }

    private void hurrying() {
        kit.term("VIII", "Each of two flames hurries (its wait is told as 1 less, 1 at least), or not");
        // by LAW 3 nothing is ever older here: he stays in 0 if its wait is not above that of 1, else in 1
        String three = "house law 3 odds 0 minutes 5;room wait 2 worth 1;room wait 1 worth 1;way 0 1;";
        LampRounds x = TestKit.told(three);
        kit.due("gets(0, 1, 0, 0) of 2 1", x.gets(0, 1, 0, 0), 1);
        kit.due("gets(0, 1, 1, 0) of 1 1", x.gets(0, 1, 1, 0), 2);
        kit.due("gets(1, 0, 1, 1): 1 is not told as 0", x.gets(1, 0, 1, 1), -3);
        kit.due("gets(1, 0, 1, 0) of 2 1", x.gets(1, 0, 1, 0), 1);
        kit.due("the wait told stays", x.room(0, 0), 2);
        LampRounds seven = TestKit.told("house law 3 odds 0 minutes 5;room wait 7 worth 1;room wait 6 worth 1;way 0 1;");
        kit.due("gets(0, 1, 1, 0) of 6 6", seven.gets(0, 1, 1, 0), 2);
        kit.due("gets(0, 1, 1, 1) of 6 5", seven.gets(0, 1, 1, 1), -2);
        kit.term("VIII", "the warden goes by MODE 1, with waits so told");
        String way = "house law 0 odds 0 minutes 6;room wait 1 worth 1;room wait 2 worth 1;way 0 1;round 0;";
        // waits 1 2: 0 0 1 0 0 1; waits 1 1: 0 1 0 1 0 1
        kit.due("gets(1, 0, 0, 0)", TestKit.told(way).gets(1, 0, 0, 0), 2);
        kit.due("gets(1, 0, 1, 0)", TestKit.told(way).gets(1, 0, 1, 0), 0);
        kit.due("gets(0, 1, 0, 1)", TestKit.told(way).gets(0, 1, 0, 1), 3);
        kit.term("VIII", "a flame that goes out by them is held to be out.");
        // 0 - 2 - 1: to 1 he comes in time if it waits 2, not if it is told as 1
        LampRounds far = TestKit.told("house law 0 odds 0 minutes 3;room wait 7 worth 1;room wait 2 worth 1;room wait 7 worth 1;"
            + "way 0 2;way 2 1;");
        kit.due("gets(1, 0, 0, 0), in time", far.gets(1, 0, 0, 0), 1);
        kit.due("gets(1, 0, 1, 0), out", far.gets(1, 0, 1, 0), -3);
        kit.due("gets(0, 1, 0, 1), he turns back", far.gets(0, 1, 0, 1), 2);
        kit.due("gets(0, 1, 0, 0)", far.gets(0, 1, 0, 0), 1);
        kit.term("VIII", "It GETS the MINUTES at which it is looked at, less 3, if it hurries.");
        LampRounds thirty = TestKit.told("house law 0 odds 0 minutes 30;room wait 1 worth 1;room wait 1 worth 1;visitor in 1 at 29;");
        kit.due("gets(0, 1, 0, 0), at all", thirty.gets(0, 1, 0, 0), 30);
        kit.due("gets(0, 1, 1, 0), at all less 3", thirty.gets(0, 1, 1, 0), 27);
        kit.due("gets(1, 0, 0, 0), out long since, and looked at", thirty.gets(1, 0, 0, 0), 1);
        kit.due("gets(1, 0, 1, 0)", thirty.gets(1, 0, 1, 0), -2);
        kit.due("gets(1, 0, 0, 1), the other's hurry costs it nothing", thirty.gets(1, 0, 0, 1), 1);
        LampRounds one = TestKit.told("house law 0 odds 0 minutes 1;room wait 1 worth 1;room wait 1 worth 1;");
        kit.due("gets(1, 0, 0, 0), at none", one.gets(1, 0, 0, 0), 0);
        kit.due("gets(1, 0, 1, 0), at none less 3", one.gets(1, 0, 1, 0), -3);
    }

    private void rests() {
        kit.term("VIII", "REST: neither GETS more by the other choice alone.");
        // by LAW 3, n MINUTES, waits 2 2: n, 0; n - 3, 0; 1, n - 4; n - 3, -3
        String head = "house law 3 odds 0 minutes ";
        String two = ";room wait 2 worth 1;room wait 2 worth 1;way 0 1;";
        kit.due("rests(0, 1) of three MINUTES", TestKit.told(head + 3 + two).rests(0, 1), 1);
        kit.due("rests(0, 1) of four: as much is not more", TestKit.told(head + 4 + two).rests(0, 1), 5);
        kit.due("rests(0, 1) of five: none", TestKit.told(head + 5 + two).rests(0, 1), 0);
        kit.promise(48, "GAME (VIII): pairs of choices of two flames at REST, as bits: "
            + "1 neither hurries, 2 the first one does, 4 the other one, 8 both.");
        LampRounds x = TestKit.told(head + 5 + ";room wait 2 worth 1;room wait 1 worth 1;way 0 1;");
        kit.due("rests(0, 1), the first one", x.rests(0, 1), 2);
        kit.due("rests(1, 0), the other one", x.rests(1, 0), 4);
        // 1 4, -2 4, 1 1, -2 1; and 30 0, 27 0, 1 26, 27 -3
        kit.due("rests(0, 1) of 3 1", TestKit.told(head + 5 + ";room wait 3 worth 1;room wait 1 worth 1;way 0 1;").rests(0, 1), 1);
        kit.due("rests(0, 1) of 3 3", TestKit.told(head + 30 + ";room wait 3 worth 1;room wait 3 worth 1;way 0 1;").rests(0, 1), 0);
        // 18 9, 18 6, 14 10, 15 6
        x = TestKit.told("house law 0 odds 0 minutes 27;room wait 2 worth 1;room wait 3 worth 1;way 0 1;");
        kit.due("rests(0, 1), the first one, and both", x.rests(0, 1), 10);
        kit.due("rests(1, 0), the other one, and both", x.rests(1, 0), 12);
        kit.promise(48, "-2: there are none such, one twice.");
        int[] none = {-1, 2, 4, Integer.MIN_VALUE, Integer.MAX_VALUE};
        for (int room : none) {
            kit.due("rests(" + room + ", 0)", x.rests(room, 0), -2);
            kit.due("rests(0, " + room + ")", x.rests(0, room), -2);
        }
        kit.due("rests(0, 0)", x.rests(0, 0), -2);
        kit.due("rests(1, 1)", x.rests(1, 1), -2);
        LampRounds four = TestKit.told("house law 0 odds 0 minutes 2;room wait 2 worth 1;room wait 2 worth 1;room wait 2 worth 1;"
            + "room wait 2 worth 1;");
        kit.due("rests(2, 3) of four", four.rests(2, 3), 1);
        kit.due("rests(3, 4) of four", four.rests(3, 4), -2);
        kit.due("rests(4, 3) of four", four.rests(4, 3), -2);
        kit.due("rests(0, 1) of one ROOM", TestKit.told(EMPTY + "room wait 1 worth 1;").rests(0, 1), -2);
        kit.due("rests(0, 1) without ROOMS", TestKit.told(EMPTY).rests(0, 1), -2);
        noHouse("rests(0, 1)", y -> y.rests(0, 1));
    }

    private void gets() {
        kit.promise(49, "What the first of two GETS by the choices (1 it hurries, 0 not).");
        LampRounds x = TestKit.told("house law 3 odds 0 minutes 5;room wait 2 worth 1;room wait 2 worth 1;way 0 1;");
        int[] first = {5, 2, 1, 2};
        int[] other = {0, 0, 1, -3};
        for (int pair = 0; pair < 4; pair++) {
            kit.due("gets(0, 1) of pair " + pair, x.gets(0, 1, pair & 1, pair >> 1), first[pair]);
            kit.due("gets(1, 0) of pair " + pair, x.gets(1, 0, pair >> 1, pair & 1), other[pair]);
        }
        kit.promise(49, "-1,000: there are none such, one twice.");
        int[] none = {-1, 2, 4, Integer.MIN_VALUE, Integer.MAX_VALUE};
        for (int number : none) {
            kit.due("gets(" + number + ", 0, 0, 0)", x.gets(number, 0, 0, 0), -1000);
            kit.due("gets(0, " + number + ", 0, 0)", x.gets(0, number, 0, 0), -1000);
            kit.due("gets(0, 1, " + number + ", 0)", x.gets(0, 1, number, 0), -1000);
            kit.due("gets(0, 1, 0, " + number + ")", x.gets(0, 1, 0, number), -1000);
        }
        kit.due("gets(0, 0, 0, 0)", x.gets(0, 0, 0, 0), -1000);
        kit.due("gets(1, 1, 1, 0)", x.gets(1, 1, 1, 0), -1000);
        LampRounds four = TestKit.told("house law 0 odds 0 minutes 2;room wait 2 worth 1;room wait 2 worth 1;room wait 2 worth 1;"
            + "room wait 2 worth 1;round 3;");
        kit.due("gets(3, 2, 0, 0) of four", four.gets(3, 2, 0, 0), 2);
        kit.due("gets(4, 3, 0, 0) of four", four.gets(4, 3, 0, 0), -1000);
        kit.due("gets(3, 4, 0, 0) of four", four.gets(3, 4, 0, 0), -1000);
        kit.due("gets(0, 1, 0, 0) of one ROOM", TestKit.told(EMPTY + "room wait 1 worth 1;").gets(0, 1, 0, 0), -1000);
        kit.due("gets(0, 1, 0, 0) without ROOMS", TestKit.told(EMPTY).gets(0, 1, 0, 0), -1000);
        kit.due("gets(0, 1, 0, 0) without a HOUSE", new LampRounds().gets(0, 1, 0, 0), -1000);
        x.house();
        kit.due("gets(0, 1, 0, 0), the HOUSE gone", x.gets(0, 1, 0, 0), -1000);
    }
}
