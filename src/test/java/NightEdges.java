/** Boundary cases of Terms II and III, and of promises 10 to 24. */
final class NightEdges {
    /** The ROUND 0 1 2 1: the flame of 0 goes out at 3; by MODE 1 at 4. */
    private static final String THREE = "house law 0 odds 5 minutes 8;room wait 2 worth 10;room wait 3 worth 20;"
        + "room wait 3 worth 5;way 0 1;way 1 2;visitor in 2 at 3;round 0 1 2 1;";
    private static final String EMPTY = "house law 0 odds 5 minutes 8;";
    private static final int[] NO_CHOICE = {-1, 2, Integer.MIN_VALUE, Integer.MAX_VALUE};

    private final EdgeKit kit;

    private NightEdges(EdgeKit kit) {
        this.kit = kit;
    }

    static void run(EdgeKit kit) {
        NightEdges edges = new NightEdges(kit);
        edges.lawZero();
        edges.lawOne();
        edges.lawTwo();
        edges.lawThree();
        edges.goingOut();
        edges.theRound();
        edges.theMostUrgent();
        edges.nodding();
        edges.at();
        edges.ageAndLeft();
        edges.burns();
        edges.out();
        edges.darkAndFirst();
        edges.looks();
        edges.oldest();
        edges.worth();
        edges.steps();
        edges.urgent();
        edges.seen();
        edges.steady();
        edges.tight();
    }

    // ---- what these tests share

    private interface Ask {
        int of(LampRounds x, int mode, int room, int minute);
    }

    /** A HOUSE of a LAW and minutes, a ROOM of each wait, and more LINES. */
    private static LampRounds told(int law, int minutes, String waits, String more) {
        StringBuilder text = new StringBuilder("house law " + law + " odds 5 minutes " + minutes + ";");
        for (String wait : waits.split(" ")) {
            text.append("room wait ").append(wait).append(" worth 1;");
        }
        return TestKit.told(text + more);
    }

    private void ages(LampRounds x, int mode, int room, int... want) {
        for (int t = 0; t < want.length; t++) {
            kit.due("age(" + mode + ", " + room + ", " + t + ")", x.age(mode, room, t), want[t]);
        }
    }

    private void wards(LampRounds x, int mode, int... want) {
        for (int t = 0; t < want.length; t++) {
            kit.due("at(" + mode + ", " + t + ")", x.at(mode, t), want[t]);
        }
    }

    /** -2 for each MODE, ROOM, MINUTE that is none, one side and the other; not for the last ones that are. */
    private void refusals(String call, Ask ask, boolean byRoom, boolean byMinute) {
        LampRounds x = TestKit.told(THREE);
        for (int mode : NO_CHOICE) {
            kit.due(call + " of MODE " + mode, ask.of(x, mode, 0, 0), -2);
        }
        int[] noRooms = {-1, 3, 4, Integer.MIN_VALUE, Integer.MAX_VALUE};
        int[] noMinutes = {-1, 8, 30, Integer.MIN_VALUE, Integer.MAX_VALUE};
        for (int mode = 0; mode < 2; mode++) {
            for (int i = 0; i < 5; i++) {
                if (byRoom) {
                    kit.due(call + " of ROOM " + noRooms[i], ask.of(x, mode, noRooms[i], 0), -2);
                }
                if (byMinute) {
                    kit.due(call + " of MINUTE " + noMinutes[i], ask.of(x, mode, 0, noMinutes[i]), -2);
                }
            }
            boolean told = ask.of(x, mode, 2, 7) != -2;
            kit.due(call + " of the last ROOM, MINUTE", told ? 1 : 0, 1);
            kit.due(call + " without a HOUSE", ask.of(new LampRounds(), mode, 0, 0), -2);
            LampRounds gone = TestKit.told(THREE);
            gone.house();
            kit.due(call + ", the HOUSE gone", ask.of(gone, mode, 0, 0), -2);
        }
        LampRounds four = told(0, 30, "7 7 7 7", "");
        kit.due(call + " of ROOM 3, MINUTE 29", ask.of(four, 1, 3, 29) != -2 ? 1 : 0, 1);
        if (byRoom) {
            kit.due(call + " of ROOM 4", ask.of(four, 1, 4, 29), -2);
            kit.due(call + " without ROOMS", ask.of(TestKit.told(EMPTY), 0, 0, 0), -2);
        }
        if (byMinute) {
            kit.due(call + " of MINUTE 30", ask.of(four, 1, 3, 30), -2);
            kit.due(call + " of MINUTE 1 of one", ask.of(told(0, 1, "7", ""), 0, 0, 1), -2);
            kit.due(call + " of MINUTE 0 of one", ask.of(told(0, 1, "7", ""), 0, 0, 0) != -2 ? 1 : 0, 1);
        }
    }

    // ---- II

    private void lawZero() {
        kit.term("II", "Each flame has AGE 0 ahead of MINUTE 0.");
        for (int law = 0; law < 4; law++) {
            LampRounds x = told(law, 1, "7 7", "");
            ages(x, 0, 0, 0);
            ages(x, 0, 1, 1);
            ages(x, 1, 1, 1);
        }
        kit.term("II", "LAW 0: a flame that is looked at (he, or a visitor, is in its ROOM) has AGE 0, each other one AGE 1 more.");
        LampRounds x = told(0, 8, "7 7", "way 0 1;visitor in 1 at 0;visitor in 1 at 3;visitor in 0 at 3;visitor in 1 at 7;");
        ages(x, 0, 0, 0, 0, 0, 0, 0, 0, 0, 0);
        ages(x, 0, 1, 0, 1, 2, 0, 1, 2, 3, 0);
        x = told(0, 6, "7 7", "way 0 1;round 0 0 1;");
        ages(x, 0, 0, 0, 0, 1, 0, 0, 1);
        ages(x, 0, 1, 1, 2, 0, 1, 2, 0);
    }

    private void lawOne() {
        kit.term("II", "1: one that is looked at has half of its AGE, cut.");
        int[] halves = {0, 0, 1, 1, 2, 2, 3, 3};
        for (int t = 0; t < 8; t++) {
            LampRounds x = told(1, 9, "7 7", "visitor in 1 at " + t + ";");
            kit.due("half of " + t, x.age(0, 1, t), halves[t]);
            kit.due("1 more behind it", x.age(0, 1, t + 1), halves[t] + 1);
        }
        LampRounds two = told(1, 8, "7 7", "visitor in 1 at 6;visitor in 1 at 6;");
        kit.due("two visitors look as one", two.age(0, 1, 6), 3);
        LampRounds both = told(1, 8, "7 7", "way 0 1;visitor in 1 at 6;round 0 0 0 0 0 0 1;");
        kit.due("he and a visitor look as one", both.age(0, 1, 6), 3);
        ages(told(1, 8, "7 7", "way 0 1;round 0 0 0 0 0 1 1 1;"), 0, 1, 1, 2, 3, 4, 5, 2, 1, 0);
    }

    private void lawTwo() {
        kit.term("II", "2: one that he looks at has AGE 0 only if he was in its ROOM at the MINUTE ahead, too");
        LampRounds x = told(2, 8, "7 7", "way 0 1;round 0 1 1 0 0;");
        ages(x, 0, 0, 0, 1, 2, 2, 0, 0, 1, 2);
        ages(x, 0, 1, 1, 1, 0, 1, 2, 3, 3, 0);
        // he stays in 0, as there is no way: that is being there, too
        ages(told(2, 6, "7 7", "round 0 1;"), 0, 0, 0, 0, 0, 0, 0, 0);
        kit.term("II", "else it stays as it was");
        // at its wait, looked at for the first time: it burns on, and goes out behind it
        ages(told(2, 5, "7 2", "way 0 1;round 0 0 1 0;"), 0, 1, 1, 2, 2, 99, 99);
        ages(told(2, 5, "7 2", "way 0 1;round 0 0 1 1;"), 0, 1, 1, 2, 2, 0, 1);
        ages(told(2, 3, "7 7", "way 0 1;round 1 0;"), 0, 0, 1, 1, 2);
        kit.term("II", "by a visitor it is 0");
        ages(told(2, 5, "7 2", "visitor in 1 at 2;"), 0, 1, 1, 2, 0, 1, 2);
        ages(told(2, 5, "7 7", "way 0 1;visitor in 1 at 2;round 0 0 1 0;"), 0, 1, 1, 2, 0, 1, 2);
        // a visitor was there, not he: it stays as it was
        ages(told(2, 5, "7 7", "way 0 1;visitor in 1 at 1;round 0 0 0 1 0;"), 0, 1, 1, 0, 1, 1, 2);
    }

    private void lawThree() {
        kit.term("II", "3: as by 0, and flames of ROOMS to which there is a WAY from his are no older");
        LampRounds x = told(3, 6, "7 7 7 7", "way 0 1;way 3 0;round 0;");
        ages(x, 0, 0, 0, 0, 0, 0, 0, 0);
        ages(x, 0, 1, 0, 0, 0, 0, 0, 0);
        ages(x, 0, 2, 1, 2, 3, 4, 5, 6);
        ages(x, 0, 3, 0, 0, 0, 0, 0, 0);
        // no older, and no younger; at its wait it burns on
        x = told(3, 7, "7 3 3", "way 0 1;way 1 2;round 0 0 0 1 2 2;");
        ages(x, 0, 2, 1, 2, 3, 3, 0, 0, 0);
        ages(x, 0, 0, 0, 0, 0, 0, 1, 2, 3);
        // two ways off it is older
        x = told(3, 5, "7 7 7", "way 0 1;way 1 2;round 0;");
        ages(x, 0, 2, 1, 2, 3, 4, 5);
        kit.term("II", "(looks of visitors aside)");
        x = told(3, 5, "7 7 7", "way 1 2;visitor in 2 at 1;visitor in 2 at 3;round 0;");
        ages(x, 0, 1, 1, 2, 3, 4, 5);
        ages(x, 0, 2, 1, 0, 1, 0, 1);
        x = told(3, 5, "7 7", "way 0 1;visitor in 1 at 3;round 1 0;");
        x.nods(1);
        ages(x, 0, 1, 0, 1, 0, 0, 0);
        x = told(3, 5, "7 7", "way 0 1;visitor in 1 at 3;round 0;");
        x.nods(1);
        ages(x, 0, 1, 0, 1, 1, 0, 0);
    }

    private void goingOut() {
        kit.term("II", "A flame whose AGE is above its wait is out for good (it has no AGE more: 99).");
        for (int wait = 1; wait <= 7; wait++) {
            LampRounds x = told(0, 12, "7 " + wait, "visitor in 1 at " + (wait + 1) + ";");
            kit.due("AGE as its wait " + wait, x.age(0, 1, wait - 1), wait);
            kit.due("it burns", x.burns(0, wait - 1), 3);
            kit.due("AGE above its wait " + wait, x.age(0, 1, wait), 99);
            kit.due("it is out", x.burns(0, wait), 1);
            kit.due("looked at then", x.age(0, 1, wait + 1), 99);
            kit.due("for good", x.age(0, 1, 11), 99);
            x = told(0, 12, "7 " + wait, "visitor in 1 at " + wait + ";");
            kit.due("looked at as late as may be", x.age(0, 1, wait), 0);
        }
        for (int law = 1; law < 4; law++) {
            ages(told(law, 6, "7 2", "visitor in 1 at 3;visitor in 1 at 4;"), 0, 1, 1, 2, 99, 99, 99, 99);
        }
    }

    // ---- III

    private void theRound() {
        kit.term("III", "At MINUTE 0 the warden is in the first ROOM of the ROUND (without one in ROOM 0).");
        for (int r = 0; r < 4; r++) {
            LampRounds x = told(0, 1, "7 7 7 7", "round " + r + " 0;");
            wards(x, 0, r);
            wards(x, 1, r);
        }
        LampRounds another = told(0, 1, "7 7 7 7", "round 3;");
        TestKit.tell(another, "house law 0 odds 5 minutes 1;room wait 7 worth 1;room wait 7 worth 1;");
        wards(another, 0, 0);
        wards(another, 1, 0);
        wards(told(0, 1, "7 7 7 7", ""), 0, 0);
        wards(told(0, 1, "7 7 7 7", ""), 1, 0);

        kit.term("III", "MODE 0: at each MINUTE behind it he is in the next ROOM of the ROUND (behind the last the first)");
        String all = "way 0 1;way 0 2;way 0 3;way 1 2;way 1 3;way 2 3;";
        int[] twelve = {0, 1, 2, 3, 0, 2, 1, 3, 1, 0, 3, 2};
        LampRounds x = told(0, 30, "7 7 7 7", all + "round 0 1 2 3 0 2 1 3 1 0 3 2;");
        for (int t = 0; t < 30; t++) {
            kit.due("at(0, " + t + ") of twelve", x.at(0, t), twelve[t % 12]);
        }
        x = told(0, 30, "7 7 7 7", all + "round 3;");
        kit.due("at(0, 1) of one", x.at(0, 1), 3);
        kit.due("at(0, 29) of one", x.at(0, 29), 3);
        wards(told(0, 5, "7 7", "way 0 1;round 1 0;"), 0, 1, 0, 1, 0, 1);
        // where the ROUND is longer than the night it does not come around
        wards(told(0, 3, "7 7", "way 0 1;round 1 0 0 1;"), 0, 1, 0, 0);

        kit.term("III", "if there is a WAY to it, or it is the one in which he is");
        wards(told(0, 6, "7 7", "way 0 1;round 0 0 1 1;"), 0, 0, 0, 1, 1, 0, 0);
        wards(told(0, 6, "7 7", "way 1 0;round 0 0 1 1;"), 0, 0, 0, 1, 1, 0, 0);
        wards(told(0, 6, "7 7", "round 1 1;"), 0, 1, 1, 1, 1, 1, 1);

        kit.term("III", "else he stays, and that place is passed over");
        wards(told(0, 10, "7 7 7", "way 0 1;way 1 2;round 0 2 1 2;"), 0, 0, 0, 1, 2, 2, 2, 1, 2, 2, 2);
        wards(told(0, 6, "7 7", "round 1 0;"), 0, 1, 1, 1, 1, 1, 1);
        // from the last to the first there is no way
        wards(told(0, 7, "7 7 7", "way 0 1;way 1 2;round 0 1 2;"), 0, 0, 1, 2, 2, 1, 2, 2);

        kit.term("III", "without a ROUND he stays.");
        wards(told(0, 5, "7 7", "way 0 1;"), 0, 0, 0, 0, 0, 0);
    }

    private void theMostUrgent() {
        kit.term("III", "MODE 1: he goes one minute on the way to the ROOM of the most URGENT flame");
        wards(told(0, 6, "7 7 7 4", "way 0 1;way 1 2;way 2 3;"), 1, 0, 1, 2, 3, 2, 1);
        kit.term("III", "(the least ROOM next of several");
        wards(told(0, 4, "7 7 7 1", "way 0 2;way 2 3;way 0 1;way 1 3;"), 1, 0, 1, 0, 2);
        // a lesser ROOM that is no nearer is not on the way
        wards(told(0, 3, "7 7 7 2", "way 0 1;way 0 2;way 2 3;"), 1, 0, 2, 3);
        // 1 is as near to 3 as 2 is, but from 0 there is a way to 2 alone
        wards(told(0, 3, "7 7 7 2", "way 0 2;way 2 3;way 1 3;"), 1, 0, 2, 3);
        kit.term("III", "he stays, if he is there");
        wards(told(0, 10, "1 7", "way 0 1;"), 1, 0, 0, 0, 0, 0, 0, 0, 1, 0, 0);
        kit.term("III", "or there is no way)");
        wards(told(0, 4, "7 1 7", "way 0 2;"), 1, 0, 0, 2, 0);
        wards(told(0, 3, "7 1", ""), 1, 0, 0, 0);
        kit.term("III", "URGENT: of those that burn the least wait less AGE, the first of several");
        LampRounds x = told(0, 4, "7 3 2 2", "round 0;");
        int[] urgent = {2, 2, 1, 0};
        for (int t = 0; t < 4; t++) {
            kit.due("urgent(0, " + t + ")", x.urgent(0, t), urgent[t]);
        }
        // waits less AGES: 1 1 at MINUTE 0, the first
        kit.due("urgent(0, 0) of two alike", told(0, 2, "1 2", "round 0;").urgent(0, 0), 0);
        kit.due("urgent(0, 0), the other's is less", told(0, 2, "2 2", "round 0;").urgent(0, 0), 1);
        kit.term("III", "none burns: he stays.");
        x = told(0, 6, "1 2", "way 0 1;");
        x.nods(0);
        x.nods(1);
        x.nods(2);
        kit.due("burns(1, 2)", x.burns(1, 2), 0);
        wards(x, 1, 0, 0, 1, 1, 1, 1);
    }

    private void nodding() {
        kit.term("III", "At a MINUTE at which he nods (an act) he is in his ROOM (and goes on as else)");
        LampRounds x = told(0, 6, "7 7", "way 0 1;round 0 1 1;");
        for (int t = 0; t < 6; t++) {
            x.nods(t);
        }
        wards(x, 0, 0, 1, 1, 0, 1, 1);
        kit.due("steps(0)", x.steps(0), 3);
        kit.due("seen(0)", x.seen(0), 3);
        kit.term("III", "but for AGES it is as if he were in none");
        int[] last = {0, 3, 5};
        for (int when : last) {
            x = told(0, 6, "7 7", "round 0;");
            x.nods(when);
            for (int t = 0; t < 6; t++) {
                kit.due("age(0, 0, " + t + "), a nod at " + when, x.age(0, 0, t), t == when ? 1 : 0);
            }
        }
        x = told(3, 4, "7 7", "way 0 1;round 0;");
        x.nods(1);
        x.nods(2);
        ages(x, 0, 0, 0, 1, 2, 0);
        ages(x, 0, 1, 0, 1, 2, 2);
        x = told(0, 4, "7 7", "visitor in 0 at 1;round 0;");
        x.nods(1);
        x.nods(1);
        ages(x, 0, 0, 0, 0, 0, 0);
        x = told(1, 4, "7 7", "visitor in 0 at 3;round 0;");
        x.nods(1);
        x.nods(2);
        x.nods(3);
        ages(x, 0, 0, 0, 1, 2, 1);
        kit.term("III", "(by LAW 2 for the MINUTE behind, too)");
        x = told(2, 6, "7 7", "round 0;");
        x.nods(1);
        ages(x, 0, 0, 0, 1, 1, 0, 0, 0);
        x.nods(3);
        ages(x, 0, 0, 0, 1, 1, 2, 2, 0);
        x = told(2, 4, "7 7", "round 0;");
        x.nods(0);
        ages(x, 0, 0, 1, 1, 0, 0);
    }

    // ---- promises 10 to 14

    private void at() {
        Ask at = (x, mode, room, minute) -> x.at(mode, minute);
        kit.promise(10, "The ROOM in which the warden is at a MINUTE (0 .. minutes less 1), by MODE 0 or 1 (III).");
        wards(TestKit.told(THREE), 0, 0, 1, 2, 1, 0, 1, 2, 1);
        wards(TestKit.told(THREE), 1, 0, 0, 1, 2, 1, 2, 1, 2);
        kit.promise(10, "NONE: there are no ROOMS");
        LampRounds x = TestKit.told(EMPTY);
        for (int mode = 0; mode < 2; mode++) {
            kit.due("at(" + mode + ", 0)", x.at(mode, 0), -1);
            kit.due("at(" + mode + ", 7)", x.at(mode, 7), -1);
            kit.due("at(" + mode + ", 8)", x.at(mode, 8), -2);
            kit.due("at(" + mode + ", -1)", x.at(mode, -1), -2);
        }
        kit.due("at(2, 0)", x.at(2, 0), -2);
        kit.promise(10, "-2: there are none such.");
        refusals("at", at, false, true);
    }

    private void ageAndLeft() {
        kit.promise(11, "AGE of a flame at the end of a MINUTE.");
        ages(TestKit.told(THREE), 0, 0, 0, 1, 2, 99, 99, 99, 99, 99);
        ages(TestKit.told(THREE), 1, 0, 0, 0, 1, 2, 99, 99, 99, 99);
        ages(TestKit.told(THREE), 1, 2, 1, 2, 3, 0, 1, 0, 1, 0);
        kit.promise(11, "-2: there are none such.");
        refusals("age", (x, mode, room, minute) -> x.age(mode, room, minute), true, true);
        kit.promise(12, "How many MINUTES more it can wait then");
        LampRounds x = TestKit.told(THREE);
        int[] left = {2, 1, 0};
        for (int t = 0; t < 3; t++) {
            kit.due("left(0, 0, " + t + ")", x.left(0, 0, t), left[t]);
        }
        kit.due("left(1, 0, 3)", x.left(1, 0, 3), 0);
        kit.due("left of the longest wait", told(0, 1, "7 7", "").left(0, 0, 0), 7);
        kit.due("left of the shortest wait", told(0, 1, "7 1", "").left(0, 1, 0), 0);
        kit.promise(12, "(NONE: it is out)");
        kit.due("left(0, 0, 3)", x.left(0, 0, 3), -1);
        kit.due("left(0, 0, 7)", x.left(0, 0, 7), -1);
        kit.due("left(1, 0, 4)", x.left(1, 0, 4), -1);
        kit.promise(12, "-2 likewise.");
        refusals("left", (y, mode, room, minute) -> y.left(mode, room, minute), true, true);
    }

    private void burns() {
        kit.promise(13, "ROOMS whose flames burn at the end of a MINUTE, as bits.");
        LampRounds x = told(0, 5, "1 2 3 4", "round 0;");
        x.nods(0);
        x.nods(1);
        int[] burns = {15, 14, 12, 8, 0};
        for (int t = 0; t < 5; t++) {
            kit.due("burns(0, " + t + ")", x.burns(0, t), burns[t]);
        }
        kit.due("burns(0, 0) without ROOMS", TestKit.told(EMPTY).burns(0, 0), 0);
        kit.due("burns(1, 7) without ROOMS", TestKit.told(EMPTY).burns(1, 7), 0);
        kit.promise(13, "-2: there are none such.");
        refusals("burns", (y, mode, room, minute) -> y.burns(mode, minute), false, true);
        kit.due("burns(0, 8) without ROOMS", TestKit.told(EMPTY).burns(0, 8), -2);
    }

    private void out() {
        kit.promise(14, "The MINUTE at which a flame goes out.");
        for (int wait = 1; wait <= 7; wait++) {
            kit.due("out(0, 1), wait " + wait, told(0, 30, "7 " + wait, "").out(0, 1), wait);
            kit.due("out(0, 1), wait " + wait + ", at the last", told(0, wait + 1, "7 " + wait, "").out(0, 1), wait);
        }
        kit.due("out(1, 0)", TestKit.told(THREE).out(1, 0), 4);
        kit.promise(14, "NONE: at none");
        for (int wait = 1; wait <= 7; wait++) {
            kit.due("out(0, 1), wait " + wait + ", one short", told(0, wait, "7 " + wait, "").out(0, 1), -1);
        }
        kit.due("out(0, 1)", TestKit.told(THREE).out(0, 1), -1);
        kit.due("out(1, 2)", TestKit.told(THREE).out(1, 2), -1);
        kit.promise(14, "-2: there are none such.");
        refusals("out", (x, mode, room, minute) -> x.out(mode, room), true, false);
    }

    // ---- promises 15 to 19

    private void darkAndFirst() {
        kit.promise(15, "The first MINUTE at which one does.");
        kit.due("dark(0)", TestKit.told(THREE).dark(0), 3);
        kit.due("dark(1)", TestKit.told(THREE).dark(1), 4);
        LampRounds x = told(0, 30, "7 5 3 4", "");
        kit.due("dark(0) of 5 3 4", x.dark(0), 3);
        kit.due("dark(0) at the last", told(0, 8, "7 7", "").dark(0), 7);
        kit.due("dark(0), the soonest that can be", told(0, 2, "7 1", "").dark(0), 1);
        kit.promise(15, "NONE: at none");
        kit.due("dark(0), one short", told(0, 7, "7 7", "").dark(0), -1);
        kit.due("dark(0) of one MINUTE", told(0, 1, "7 1", "").dark(0), -1);
        kit.due("dark(1) of one ROOM", told(0, 30, "1", "").dark(1), -1);
        kit.due("dark(0) without ROOMS", TestKit.told(EMPTY).dark(0), -1);
        kit.due("dark(1) without ROOMS", TestKit.told(EMPTY).dark(1), -1);
        kit.promise(15, "-2: there is no such MODE, no HOUSE.");
        refusals("dark", (y, mode, room, minute) -> y.dark(mode), false, false);

        kit.promise(16, "Whose it is, the first ROOM of several.");
        kit.due("first(0) of 5 3 4", x.first(0), 2);
        kit.due("first(0) of 3 3 3", told(0, 8, "7 3 3 3", "").first(0), 1);
        kit.due("first(0) of 4 3 3", told(0, 8, "7 4 3 3", "").first(0), 2);
        kit.due("first(0), the last ROOM", told(0, 8, "7 7 7 6", "").first(0), 3);
        kit.due("first(0), the first ROOM", TestKit.told(THREE).first(0), 0);
        kit.due("first(1), the first ROOM", TestKit.told(THREE).first(1), 0);
        kit.promise(16, "NONE, -2 likewise.");
        kit.due("first(0), one short", told(0, 7, "7 7", "").first(0), -1);
        kit.due("first(1) of one ROOM", told(0, 30, "1", "").first(1), -1);
        kit.due("first(0) without ROOMS", TestKit.told(EMPTY).first(0), -1);
        refusals("first", (y, mode, room, minute) -> y.first(mode), false, false);
    }

    private void looks() {
        kit.promise(17, "At how many MINUTES a ROOM is looked at (by the warden, a visitor: one or both is one).");
        LampRounds x = told(0, 30, "7 7 7", "visitor in 0 at 5;visitor in 1 at 0;visitor in 1 at 29;visitor in 1 at 29;");
        kit.due("looks(0, 0), at all", x.looks(0, 0), 30);
        kit.due("looks(0, 1), the first and the last", x.looks(0, 1), 2);
        kit.due("looks(0, 2), at none", x.looks(0, 2), 0);
        kit.due("looks(1, 1)", TestKit.told(THREE).looks(1, 1), 3);
        // a visitor behind the night's end is seen by none
        kit.due("looks(0, 1), behind the end", told(0, 3, "7 7", "visitor in 1 at 3;visitor in 1 at 2;").looks(0, 1), 1);
        x = told(0, 4, "7 7", "visitor in 0 at 1;");
        x.nods(0);
        x.nods(1);
        kit.due("looks(0, 0), nods", x.looks(0, 0), 3);
        x.visit(0, 0);
        x.visit(0, 0);
        kit.due("looks(0, 0), a visit", x.looks(0, 0), 4);
        kit.promise(17, "-2: there are none such.");
        refusals("looks", (y, mode, room, minute) -> y.looks(mode, room), true, false);
    }

    private void oldest() {
        kit.promise(18, "The greatest AGE of a flame at any MINUTE.");
        kit.due("oldest(0, 0), never older", told(0, 30, "7 7", "").oldest(0, 0), 0);
        kit.due("oldest(0, 1), its wait", told(0, 7, "7 7", "").oldest(0, 1), 7);
        kit.due("oldest(0, 1), out", told(0, 8, "7 7", "").oldest(0, 1), 99);
        kit.due("oldest(0, 1) of one MINUTE", told(0, 1, "7 7", "").oldest(0, 1), 1);
        kit.due("oldest(0, 1), at the last", told(0, 3, "7 7", "visitor in 1 at 0;").oldest(0, 1), 2);
        kit.due("oldest(0, 1), at the first", told(0, 2, "7 7", "visitor in 1 at 1;").oldest(0, 1), 1);
        kit.due("oldest(1, 2)", TestKit.told(THREE).oldest(1, 2), 3);
        kit.promise(18, "-2 likewise.");
        refusals("oldest", (x, mode, room, minute) -> x.oldest(mode, room), true, false);
    }

    private void worth() {
        kit.promise(19, "Worth of all flames that burn at the end of a MINUTE.");
        String four = "room wait 7 worth 99;room wait 1 worth 99;room wait 2 worth 99;room wait 3 worth 99;";
        LampRounds x = TestKit.told("house law 0 odds 0 minutes 8;" + four);
        int[] worth = {396, 297, 198, 99, 99};
        for (int t = 0; t < 5; t++) {
            kit.due("worth(0, " + t + ")", x.worth(0, t), worth[t]);
        }
        kit.due("worth(0, 0) of 0", TestKit.told(EMPTY + "room wait 1 worth 0;").worth(0, 0), 0);
        kit.due("worth(0, 7) without ROOMS", TestKit.told(EMPTY).worth(0, 7), 0);
        x = told(0, 3, "1", "");
        x.nods(0);
        x.nods(1);
        kit.due("worth(0, 1), none burns", x.worth(0, 1), 0);
        kit.due("worth(1, 4)", TestKit.told(THREE).worth(1, 4), 25);
        kit.promise(19, "-2: there are none such.");
        refusals("worth", (y, mode, room, minute) -> y.worth(mode, minute), false, true);
        kit.due("worth(0, 8) without ROOMS", TestKit.told(EMPTY).worth(0, 8), -2);
    }

    // ---- promises 20 to 24

    private void steps() {
        kit.promise(20, "How many MINUTES the warden goes (is in another ROOM than at the one ahead).");
        String both = "way 0 1;round 0 1;";
        kit.due("steps(0) of one MINUTE", told(0, 1, "7 7", both).steps(0), 0);
        kit.due("steps(0) of two", told(0, 2, "7 7", both).steps(0), 1);
        kit.due("steps(0) of thirty", told(0, 30, "7 7", both).steps(0), 29);
        kit.due("steps(0), he stays", told(0, 30, "7 7", "way 0 1;").steps(0), 0);
        kit.due("steps(1)", TestKit.told(THREE).steps(1), 6);
        kit.due("steps(0) without ROOMS", TestKit.told(EMPTY).steps(0), 0);
        kit.due("steps(1) without ROOMS", TestKit.told(EMPTY).steps(1), 0);
        kit.promise(20, "-2: there is no such MODE, no HOUSE.");
        refusals("steps", (x, mode, room, minute) -> x.steps(mode), false, false);
    }

    private void urgent() {
        kit.promise(21, "The flame that is most URGENT (III) at the end of a MINUTE.");
        int[] urgent = {0, 0, 0, 1, 1, 2, 1, 2};
        for (int t = 0; t < 8; t++) {
            kit.due("urgent(0, " + t + ")", TestKit.told(THREE).urgent(0, t), urgent[t]);
        }
        kit.due("urgent(1, 2)", TestKit.told(THREE).urgent(1, 2), 2);
        kit.promise(21, "NONE: none burns");
        LampRounds x = told(0, 3, "1 1", "");
        x.nods(0);
        x.nods(1);
        for (int mode = 0; mode < 2; mode++) {
            kit.due("urgent(" + mode + ", 0)", x.urgent(mode, 0), 0);
            kit.due("urgent(" + mode + ", 1)", x.urgent(mode, 1), -1);
            kit.due("urgent(" + mode + ", 2)", x.urgent(mode, 2), -1);
            kit.due("urgent(" + mode + ", 0) without ROOMS", TestKit.told(EMPTY).urgent(mode, 0), -1);
        }
        kit.promise(21, "-2: there are none such.");
        refusals("urgent", (y, mode, room, minute) -> y.urgent(mode, minute), false, true);
        kit.due("urgent(0, 8) without ROOMS", TestKit.told(EMPTY).urgent(0, 8), -2);
    }

    private void seen() {
        kit.promise(22, "ROOMS in which the warden ever is, as bits.");
        String line = "way 0 1;way 1 2;way 2 3;";
        kit.due("seen(0), the first alone", told(0, 1, "7 7 7 7", line + "round 3 2 1 0;").seen(0), 8);
        kit.due("seen(0), one short", told(0, 3, "7 7 7 7", line + "round 3 2 1 0;").seen(0), 14);
        kit.due("seen(0), all", told(0, 4, "7 7 7 7", line + "round 3 2 1 0;").seen(0), 15);
        kit.due("seen(0), a place passed over", told(0, 30, "7 7", "round 0 1;").seen(0), 1);
        kit.due("seen(0) without ROOMS", TestKit.told(EMPTY).seen(0), 0);
        kit.due("seen(1) without ROOMS", TestKit.told(EMPTY).seen(1), 0);
        kit.promise(22, "-2: there is no such MODE, no HOUSE.");
        refusals("seen", (x, mode, room, minute) -> x.seen(mode), false, false);
    }

    private void steady() {
        kit.promise(23, "ROOMS whose flames never go out, as bits.");
        kit.due("steady(0), all", told(0, 7, "7 7 7 7", "").steady(0), 15);
        kit.due("steady(0) of one MINUTE", told(0, 1, "1 1 1 1", "").steady(0), 15);
        kit.due("steady(0), one MINUTE more", told(0, 8, "7 7 7 7", "").steady(0), 1);
        kit.due("steady(1)", TestKit.told(THREE).steady(1), 6);
        LampRounds x = told(0, 3, "1", "");
        x.nods(0);
        x.nods(1);
        kit.due("steady(0), none", x.steady(0), 0);
        kit.due("steady(0) without ROOMS", TestKit.told(EMPTY).steady(0), 0);
        kit.promise(23, "-2: there is no such MODE, no HOUSE.");
        refusals("steady", (y, mode, room, minute) -> y.steady(mode), false, false);
    }

    private void tight() {
        kit.promise(24, "The fewest MINUTES more that a flame can wait (left()) at the end of any MINUTE at which it burns.");
        kit.due("tight(0, 0), looked at always", told(0, 30, "7 7", "").tight(0, 0), 7);
        kit.due("tight(0, 1) of one MINUTE", told(0, 1, "7 7", "").tight(0, 1), 6);
        kit.due("tight(0, 1), at its wait", told(0, 7, "7 7", "").tight(0, 1), 0);
        kit.due("tight(0, 1), out then", told(0, 8, "7 7", "").tight(0, 1), 0);
        kit.due("tight(0, 1), at the first", told(0, 3, "7 5", "visitor in 1 at 1;visitor in 1 at 2;").tight(0, 1), 4);
        kit.due("tight(1, 1)", TestKit.told(THREE).tight(1, 1), 1);
        // AGES 1 2 1 2 1 2 of a wait of 3
        kit.due("tight(0, 1) by LAW 1", told(1, 6, "7 3", "visitor in 1 at 2;visitor in 1 at 4;").tight(0, 1), 1);
        kit.promise(24, "-2: there are none such.");
        refusals("tight", (x, mode, room, minute) -> x.tight(mode, room), true, false);
    }
}
