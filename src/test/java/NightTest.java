/** Promises 10 to 24: nights by MODE 0 and 1, each LAW, nods; answers worked out by hand. */
public final class NightTest {
    private static final TestKit KIT = new TestKit();
    private static final String THREE = "house law 0 odds 5 minutes 8;room wait 2 worth 10;room wait 3 worth 20;"
        + "room wait 3 worth 5;way 0 1;way 1 2;visitor in 2 at 3;round 0 1 2 1;";

    public static void main(String[] args) {
        byRound();
        byUrgency();
        wrongInputs();
        laws();
        nods();
        roundWithGaps();
        urgencyTies();
        visitors();
        noRooms();
        noRound();
        KIT.close("NightTest");
    }

    private static void wards(LampRounds x, int mode, int... want) {
        for (int t = 0; t < want.length; t++) {
            KIT.due("at(" + mode + ", " + t + ")", x.at(mode, t), want[t]);
        }
    }

    private static void ages(LampRounds x, int mode, int room, int... want) {
        for (int t = 0; t < want.length; t++) {
            KIT.due("age(" + mode + ", " + room + ", " + t + ")", x.age(mode, room, t), want[t]);
        }
    }

    private static void byRound() {
        KIT.part("10 to 24 by MODE 0");
        LampRounds x = TestKit.told(THREE);
        wards(x, 0, 0, 1, 2, 1, 0, 1, 2, 1);
        ages(x, 0, 0, 0, 1, 2, 99, 99, 99, 99, 99);
        ages(x, 0, 1, 1, 0, 1, 0, 1, 0, 1, 0);
        ages(x, 0, 2, 1, 2, 0, 0, 1, 2, 0, 1);
        int[] left = {2, 1, 0, -1, -1};
        int[] burns = {7, 7, 7, 6, 6, 6, 6, 6};
        int[] worth = {35, 35, 35, 25, 25, 25, 25, 25};
        int[] urgent = {0, 0, 0, 1, 1, 2, 1, 2};
        for (int t = 0; t < 8; t++) {
            KIT.due("burns(0, " + t + ")", x.burns(0, t), burns[t]);
            KIT.due("worth(0, " + t + ")", x.worth(0, t), worth[t]);
            KIT.due("urgent(0, " + t + ")", x.urgent(0, t), urgent[t]);
            if (t < left.length) {
                KIT.due("left(0, 0, " + t + ")", x.left(0, 0, t), left[t]);
            }
        }
        int[][] rooms = {{3, 2, 99, 0}, {-1, 4, 1, 2}, {-1, 3, 2, 1}};
        for (int r = 0; r < 3; r++) {
            KIT.due("out(0, " + r + ")", x.out(0, r), rooms[r][0]);
            KIT.due("looks(0, " + r + ")", x.looks(0, r), rooms[r][1]);
            KIT.due("oldest(0, " + r + ")", x.oldest(0, r), rooms[r][2]);
            KIT.due("tight(0, " + r + ")", x.tight(0, r), rooms[r][3]);
        }
        KIT.due("dark(0)", x.dark(0), 3);
        KIT.due("first(0)", x.first(0), 0);
        KIT.due("steps(0)", x.steps(0), 7);
        KIT.due("seen(0)", x.seen(0), 7);
        KIT.due("steady(0)", x.steady(0), 6);
    }

    private static void byUrgency() {
        KIT.part("10 to 24 by MODE 1");
        LampRounds x = TestKit.told(THREE);
        wards(x, 1, 0, 0, 1, 2, 1, 2, 1, 2);
        ages(x, 1, 0, 0, 0, 1, 2, 99, 99, 99, 99);
        ages(x, 1, 1, 1, 2, 0, 1, 0, 1, 0, 1);
        ages(x, 1, 2, 1, 2, 3, 0, 1, 0, 1, 0);
        int[][] rooms = {{4, 2, 99, 0}, {-1, 3, 2, 1}, {-1, 3, 3, 0}};
        for (int r = 0; r < 3; r++) {
            KIT.due("out(1, " + r + ")", x.out(1, r), rooms[r][0]);
            KIT.due("looks(1, " + r + ")", x.looks(1, r), rooms[r][1]);
            KIT.due("oldest(1, " + r + ")", x.oldest(1, r), rooms[r][2]);
            KIT.due("tight(1, " + r + ")", x.tight(1, r), rooms[r][3]);
        }
        KIT.due("left(1, 2, 2)", x.left(1, 2, 2), 0);
        KIT.due("burns(1, 3)", x.burns(1, 3), 7);
        KIT.due("burns(1, 4)", x.burns(1, 4), 6);
        KIT.due("worth(1, 4)", x.worth(1, 4), 25);
        KIT.due("urgent(1, 2)", x.urgent(1, 2), 2);
        KIT.due("urgent(1, 3)", x.urgent(1, 3), 0);
        KIT.due("dark(1)", x.dark(1), 4);
        KIT.due("first(1)", x.first(1), 0);
        KIT.due("steps(1)", x.steps(1), 6);
        KIT.due("seen(1)", x.seen(1), 7);
        KIT.due("steady(1)", x.steady(1), 6);
    }

    private static void wrongInputs() {
        KIT.part("10 to 24 wrong inputs");
        LampRounds told = TestKit.told(THREE);
        LampRounds empty = new LampRounds();
        int[][] wrong = {{2, 0, 0}, {-1, 0, 0}, {0, 3, 0}, {0, -1, 0}, {0, 0, 8}, {0, 0, -1}, {1, 0, 8}, {1, 4, 0},
            {Integer.MIN_VALUE, 0, 0}, {0, Integer.MAX_VALUE, 0}, {0, 0, Integer.MAX_VALUE}, {0, 0, Integer.MIN_VALUE}};
        for (int[] w : wrong) {
            KIT.due("age", told.age(w[0], w[1], w[2]), -2);
            KIT.due("left", told.left(w[0], w[1], w[2]), -2);
            if (w[1] == 0) {
                KIT.due("at", told.at(w[0], w[2]), -2);
                KIT.due("burns", told.burns(w[0], w[2]), -2);
                KIT.due("worth", told.worth(w[0], w[2]), -2);
                KIT.due("urgent", told.urgent(w[0], w[2]), -2);
            }
            if (w[2] == 0) {
                KIT.due("out", told.out(w[0], w[1]), -2);
                KIT.due("looks", told.looks(w[0], w[1]), -2);
                KIT.due("oldest", told.oldest(w[0], w[1]), -2);
                KIT.due("tight", told.tight(w[0], w[1]), -2);
            }
            if (w[1] == 0 && w[2] == 0) {
                none(told, w[0]);
            }
        }
        none(empty, 0);
        none(empty, 1);
        KIT.due("at without a house", empty.at(0, 0), -2);
        KIT.due("age without a house", empty.age(0, 0, 0), -2);
        KIT.due("left without a house", empty.left(0, 0, 0), -2);
        KIT.due("tight without a house", empty.tight(0, 0), -2);
    }

    private static void none(LampRounds x, int mode) {
        KIT.due("dark(" + mode + ")", x.dark(mode), -2);
        KIT.due("first(" + mode + ")", x.first(mode), -2);
        KIT.due("steps(" + mode + ")", x.steps(mode), -2);
        KIT.due("seen(" + mode + ")", x.seen(mode), -2);
        KIT.due("steady(" + mode + ")", x.steady(mode), -2);
    }

    private static void laws() {
        KIT.part("11 LAWS");
        String two = " odds 0 minutes 8;room wait 7 worth 1;room wait 7 worth 1;way 0 1;";
        LampRounds x = TestKit.told("house law 1" + two + "round 0 0 1;");
        ages(x, 0, 0, 0, 0, 1, 0, 0, 1, 0, 0);
        ages(x, 0, 1, 1, 2, 1, 2, 3, 1, 2, 3);
        x = TestKit.told("house law 1" + two + "visitor in 1 at 4;visitor in 1 at 4;round 0;");
        ages(x, 0, 1, 1, 2, 3, 4, 2, 3, 4, 5);
        x = TestKit.told("house law 2" + two + "round 0 1 1;");
        ages(x, 0, 0, 0, 1, 2, 2, 3, 4, 4, 5);
        ages(x, 0, 1, 1, 1, 0, 1, 1, 0, 1, 1);
        x = TestKit.told("house law 2" + two + "visitor in 0 at 3;round 0 1 1;");
        ages(x, 0, 0, 0, 1, 2, 0, 1, 2, 2, 3);
        x = TestKit.told("house law 3 odds 0 minutes 8;room wait 7 worth 1;room wait 7 worth 1;room wait 7 worth 1;"
            + "way 0 1;visitor in 1 at 5;round 0;");
        ages(x, 0, 0, 0, 0, 0, 0, 0, 0, 0, 0);
        ages(x, 0, 1, 0, 0, 0, 0, 0, 0, 0, 0);
        ages(x, 0, 2, 1, 2, 3, 4, 5, 6, 7, 99);
        // a visitor in ROOM 2 spares only the flame that he sees, not those beside it
        x = TestKit.told("house law 3 odds 0 minutes 4;room wait 7 worth 1;room wait 7 worth 1;room wait 7 worth 1;"
            + "way 1 2;visitor in 2 at 1;round 0;");
        ages(x, 0, 1, 1, 2, 3, 4);
        ages(x, 0, 2, 1, 0, 1, 2);
        // a flame is out by an AGE above its wait, not at it, and for good
        x = TestKit.told("house law 0 odds 0 minutes 6;room wait 1 worth 1;room wait 2 worth 1;visitor in 1 at 3;"
            + "visitor in 1 at 4;");
        ages(x, 0, 1, 1, 2, 99, 99, 99, 99);
        KIT.due("looks(0, 1)", x.looks(0, 1), 2);
        KIT.due("out(0, 1)", x.out(0, 1), 2);
        KIT.due("left(0, 1, 1)", x.left(0, 1, 1), 0);
        KIT.due("left(0, 1, 2)", x.left(0, 1, 2), -1);
    }

    private static void nods() {
        KIT.part("III nods");
        String two = " odds 0 minutes 6;room wait 7 worth 1;room wait 7 worth 1;way 0 1;";
        LampRounds x = TestKit.told("house law 0" + two + "round 0 1;");
        x.nods(0);
        x.nods(3);
        wards(x, 0, 0, 1, 0, 1, 0, 1);
        ages(x, 0, 0, 1, 2, 0, 1, 0, 1);
        ages(x, 0, 1, 1, 0, 1, 2, 3, 0);
        KIT.due("looks(0, 0)", x.looks(0, 0), 2);
        KIT.due("looks(0, 1)", x.looks(0, 1), 2);
        KIT.due("steps(0)", x.steps(0), 5);
        KIT.due("seen(0)", x.seen(0), 3);
        x = TestKit.told("house law 2" + two + "round 0 1 1 1;");
        x.nods(1);
        ages(x, 0, 1, 1, 2, 2, 0, 1, 1);
        x = TestKit.told("house law 3" + two + "round 0;");
        x.nods(1);
        ages(x, 0, 0, 0, 1, 0, 0, 0, 0);
        ages(x, 0, 1, 0, 1, 1, 1, 1, 1);
        x = TestKit.told("house law 0" + two + "visitor in 0 at 2;round 0;");
        x.nods(2);
        ages(x, 0, 0, 0, 0, 0, 0, 0, 0);
        KIT.due("looks(0, 0) by the visitor", x.looks(0, 0), 6);
    }

    private static void roundWithGaps() {
        KIT.part("III places passed over");
        // no way from 0 to 2: he stays, and the next place counts on
        LampRounds x = TestKit.told("house law 0 odds 0 minutes 10;room wait 7 worth 1;room wait 7 worth 1;"
            + "room wait 7 worth 1;way 0 1;way 1 2;round 0 2 1 2;");
        wards(x, 0, 0, 0, 1, 2, 2, 2, 1, 2, 2, 2);
        KIT.due("steps(0)", x.steps(0), 4);
        x = TestKit.told("house law 0 odds 0 minutes 5;room wait 7 worth 1;room wait 7 worth 1;round 1 0;");
        wards(x, 0, 1, 1, 1, 1, 1);
        KIT.due("seen(0)", x.seen(0), 2);
        KIT.due("steps(0)", x.steps(0), 0);
    }

    private static void urgencyTies() {
        KIT.part("III URGENT");
        // from 0 to 3 there are two ways of equal length; the least ROOM is next
        LampRounds x = TestKit.told("house law 0 odds 0 minutes 4;room wait 7 worth 1;room wait 7 worth 1;"
            + "room wait 7 worth 1;room wait 1 worth 1;way 0 2;way 2 3;way 0 1;way 1 3;round 0;");
        wards(x, 1, 0, 1, 0, 2);
        // the most URGENT can't be reached: he stays
        x = TestKit.told("house law 0 odds 0 minutes 4;room wait 7 worth 1;room wait 1 worth 1;room wait 7 worth 1;"
            + "way 0 2;round 0;");
        wards(x, 1, 0, 0, 2, 0);
        KIT.due("urgent(1, 0)", x.urgent(1, 0), 1);
        // when none burns he stays
        x = TestKit.told("house law 0 odds 0 minutes 5;room wait 1 worth 1;round 0;");
        x.nods(0);
        x.nods(1);
        KIT.due("urgent(1, 1)", x.urgent(1, 1), -1);
        KIT.due("at(1, 4)", x.at(1, 4), 0);
        KIT.due("burns(1, 4)", x.burns(1, 4), 0);
    }

    private static void visitors() {
        KIT.part("17 looks of visitors");
        LampRounds x = TestKit.told("house law 0 odds 0 minutes 4;room wait 1 worth 1;room wait 7 worth 1;"
            + "visitor in 1 at 1;visitor in 1 at 1;visitor in 0 at 2;visitor in 1 at 4;visitor in 1 at 29;");
        KIT.due("looks(0, 0)", x.looks(0, 0), 4);
        KIT.due("looks(0, 1)", x.looks(0, 1), 1);
        ages(x, 0, 1, 1, 0, 1, 2);
        KIT.due("visitors told", x.count(5), 5);
    }

    private static void noRooms() {
        KIT.part("10 to 23 without ROOMS");
        LampRounds x = TestKit.told("house law 2 odds 3 minutes 5;");
        for (int mode = 0; mode < 2; mode++) {
            KIT.due("at", x.at(mode, 4), -1);
            KIT.due("at beyond", x.at(mode, 5), -2);
            KIT.due("age", x.age(mode, 0, 0), -2);
            KIT.due("burns", x.burns(mode, 0), 0);
            KIT.due("dark", x.dark(mode), -1);
            KIT.due("first", x.first(mode), -1);
            KIT.due("worth", x.worth(mode, 4), 0);
            KIT.due("steps", x.steps(mode), 0);
            KIT.due("urgent", x.urgent(mode, 0), -1);
            KIT.due("seen", x.seen(mode), 0);
            KIT.due("steady", x.steady(mode), 0);
            KIT.due("out", x.out(mode, 0), -2);
        }
    }

    private static void noRound() {
        KIT.part("III without a ROUND");
        LampRounds x = TestKit.told("house law 0 odds 0 minutes 3;room wait 7 worth 1;room wait 2 worth 1;way 0 1;");
        wards(x, 0, 0, 0, 0);
        wards(x, 1, 0, 1, 1);
    }
}
