/** Promises 25 to 40: KEEP, RINGS, which to save, SHARES; answers worked out by hand. */
public final class KeepTest {
    private static final TestKit KIT = new TestKit();
    private static final String HEAD = "house law 0 odds 0 minutes 8;";

    public static void main(String[] args) {
        twoRooms();
        noWays();
        noRooms();
        noHouse();
        visitorsAndActsAside();
        ringsByHand();
        roundsAsRings();
        longSpans();
        saving();
        longer();
        densityAndEven();
        shares();
        another();
        askedInAnyOrder();
        rareRings();
        KIT.close("KeepTest");
    }

    private static void twoRooms() {
        KIT.part("25 to 32 two rooms");
        LampRounds x = TestKit.told(HEAD + "room wait 1 worth 3;room wait 1 worth 4;way 0 1;");
        for (int set = 0; set < 4; set++) {
            KIT.due("keeps(" + set + ")", x.keeps(set), 1);
        }
        KIT.due("keeps(4)", x.keeps(4), -2);
        KIT.due("keeps(-1)", x.keeps(-1), -2);
        KIT.due("keeps(max)", x.keeps(Integer.MAX_VALUE), -2);
        KIT.due("keeps(min)", x.keeps(Integer.MIN_VALUE), -2);
        // of 2 * 4 STATES all but those in which both flames are 1 old
        KIT.due("states()", x.states(), 6);
        KIT.due("next()", x.next(), 1);
        KIT.due("longest()", x.longest(), 100);
        KIT.due("ring()", x.ring(), 2);
        KIT.due("ringed(0)", x.ringed(0), 0);
        KIT.due("ringed(1)", x.ringed(1), 1);
        KIT.due("ringed(2)", x.ringed(2), -1);
        KIT.due("ringed(max)", x.ringed(Integer.MAX_VALUE), -1);
        KIT.due("ringed(-1)", x.ringed(-1), -2);
        int[] rings = {0, 0, 2, 0, 2, 0, 2, 0, 2, 0, 2};
        for (int n = 1; n <= 10; n++) {
            KIT.due("rings(" + n + ")", x.rings(n), rings[n]);
        }
        KIT.due("rings(0)", x.rings(0), -2);
        KIT.due("rings(11)", x.rings(11), -2);
        KIT.due("rings(-1)", x.rings(-1), -2);
        KIT.due("isRing() without a ROUND", x.isRing(), 0);
        KIT.due("most()", x.most(), 7);
        KIT.due("saved()", x.saved(), 3);
        KIT.due("given()", x.given(), 0);
        KIT.due("longer(0)", x.longer(0), 0);
        KIT.due("shares(0)", x.shares(0), 0);
        KIT.due("second()", x.second(), 0);
    }

    private static void noWays() {
        KIT.part("25 to 40 no ways");
        LampRounds x = TestKit.told(HEAD + "room wait 1 worth 3;room wait 2 worth 9;");
        KIT.due("keeps(0)", x.keeps(0), 1);
        KIT.due("keeps(1)", x.keeps(1), 1);
        KIT.due("keeps(2)", x.keeps(2), 0);
        KIT.due("keeps(3)", x.keeps(3), 0);
        KIT.due("states()", x.states(), 0);
        KIT.due("next()", x.next(), -1);
        KIT.due("longest()", x.longest(), 2);
        KIT.due("ring()", x.ring(), -1);
        KIT.due("ringed(0)", x.ringed(0), -1);
        KIT.due("rings(10)", x.rings(10), 0);
        KIT.due("most()", x.most(), 3);
        KIT.due("saved()", x.saved(), 1);
        KIT.due("given()", x.given(), 2);
        KIT.due("longer(0)", x.longer(0), -1);
        KIT.due("longer(1)", x.longer(1), -1);
        KIT.due("shares(0)", x.shares(0), -1);
        KIT.due("shares(1)", x.shares(1), 1);
        KIT.due("second()", x.second(), 1);
    }

    private static void noRooms() {
        KIT.part("25 to 40 no rooms");
        LampRounds x = TestKit.told(HEAD);
        KIT.due("keeps(0)", x.keeps(0), 1);
        KIT.due("keeps(1)", x.keeps(1), -2);
        KIT.due("states()", x.states(), 0);
        KIT.due("next()", x.next(), -1);
        KIT.due("longest()", x.longest(), 100);
        KIT.due("ring()", x.ring(), -1);
        KIT.due("ringed(0)", x.ringed(0), -1);
        KIT.due("rings(1)", x.rings(1), 0);
        KIT.due("isRing()", x.isRing(), 0);
        KIT.due("most()", x.most(), 0);
        KIT.due("saved()", x.saved(), 0);
        KIT.due("given()", x.given(), 0);
        KIT.due("longer(0)", x.longer(0), -2);
        KIT.due("density(0)", x.density(0), 0);
        KIT.due("density(1)", x.density(1), 1);
        KIT.due("even()", x.even(), 1);
        KIT.due("shares(0)", x.shares(0), -2);
        KIT.due("second()", x.second(), -1);
    }

    private static void noHouse() {
        KIT.part("25 to 40 no house");
        LampRounds x = new LampRounds();
        KIT.due("keeps(0)", x.keeps(0), -2);
        KIT.due("states()", x.states(), -2);
        KIT.due("next()", x.next(), -2);
        KIT.due("longest()", x.longest(), -2);
        KIT.due("ring()", x.ring(), -2);
        KIT.due("ringed(0)", x.ringed(0), -2);
        KIT.due("rings(1)", x.rings(1), -2);
        KIT.due("isRing()", x.isRing(), -2);
        KIT.due("most()", x.most(), -2);
        KIT.due("saved()", x.saved(), -2);
        KIT.due("given()", x.given(), -2);
        KIT.due("longer(0)", x.longer(0), -2);
        KIT.due("density(0)", x.density(0), -2);
        KIT.due("even()", x.even(), -2);
        KIT.due("shares(0)", x.shares(0), -2);
        KIT.due("second()", x.second(), -2);
    }

    private static void visitorsAndActsAside() {
        KIT.part("IV visitors, acts aside");
        LampRounds x = TestKit.told(HEAD + "room wait 1 worth 3;room wait 1 worth 4;way 0 1;visitor in 1 at 1;round 0 1;");
        for (int t = 0; t < 8; t++) {
            x.nods(t);
        }
        KIT.due("keeps(3)", x.keeps(3), 1);
        KIT.due("states()", x.states(), 6);
        KIT.due("isRing()", x.isRing(), 1);
        KIT.due("ring()", x.ring(), 2);
        KIT.due("next()", x.next(), 1);
        x = TestKit.told(HEAD + "room wait 1 worth 3;room wait 1 worth 4;visitor in 1 at 1;visitor in 1 at 3;");
        KIT.due("keeps(2)", x.keeps(2), 0);
        KIT.due("longest()", x.longest(), 1);
    }

    private static void ringsByHand() {
        KIT.part("29 to 31 rings");
        // one room: each row is a RING
        LampRounds x = TestKit.told(HEAD + "room wait 1 worth 1;");
        for (int n = 1; n <= 10; n++) {
            KIT.due("rings(" + n + ")", x.rings(n), 1);
        }
        KIT.due("ring()", x.ring(), 1);
        // a star by LAW 3: staying in the middle is enough
        x = TestKit.told("house law 3 odds 0 minutes 8;room wait 1 worth 1;room wait 1 worth 1;room wait 1 worth 1;"
            + "way 1 0;way 1 2;");
        KIT.due("ring() of a star", x.ring(), 1);
        KIT.due("ringed(0) of a star", x.ringed(0), 1);
        KIT.due("rings(1) of a star", x.rings(1), 1);
        // 1 1, and those with one step to a side and back: by 0 the flame of 2 is 1 old
        KIT.due("rings(2) of a star", x.rings(2), 1);
        // LAW 2 wants each flame looked at twice together: 0 0 1 1
        x = TestKit.told("house law 2 odds 0 minutes 8;room wait 3 worth 1;room wait 3 worth 1;way 0 1;");
        KIT.due("ring() by LAW 2", x.ring(), 4);
        int[] row = {0, 0, 1, 1, -1};
        for (int i = 0; i < row.length; i++) {
            KIT.due("ringed(" + i + ") by LAW 2", x.ringed(i), row[i]);
        }
        KIT.due("rings(4) by LAW 2", x.rings(4), 4);
        KIT.due("rings(3) by LAW 2", x.rings(3), 0);
        // three in a row, 2 2 2: 0 1 2 1 leaves 0 alone for three minutes
        x = TestKit.told(HEAD + "room wait 2 worth 1;room wait 2 worth 1;room wait 2 worth 1;way 0 1;way 1 2;");
        KIT.due("ring() of three in a row", x.ring(), -1);
        x = TestKit.told(HEAD + "room wait 3 worth 1;room wait 1 worth 1;room wait 3 worth 1;way 0 1;way 1 2;");
        KIT.due("ring() of three in a row", x.ring(), 4);
        KIT.due("rings(4) of three in a row", x.rings(4), 4);
        KIT.due("ringed(2)", x.ringed(2), 2);
        // longer than ten: none is told
        x = TestKit.told("house law 2 odds 0 minutes 8;room wait 7 worth 1;room wait 7 worth 1;room wait 7 worth 1;"
            + "room wait 7 worth 1;way 0 1;way 1 2;way 2 3;");
        KIT.due("ring() none up to ten", x.ring(), -1);
    }

    private static void roundsAsRings() {
        KIT.part("32 isRing");
        String three = HEAD + "room wait 7 worth 1;room wait 7 worth 1;room wait 7 worth 1;way 0 1;way 1 2;";
        KIT.due("0 1 2 1", TestKit.told(three + "round 0 1 2 1;").isRing(), 1);
        KIT.due("0 1 2: no way back", TestKit.told(three + "round 0 1 2;").isRing(), 0);
        KIT.due("0 2 1: no way", TestKit.told(three + "round 0 2 1 1;").isRing(), 0);
        KIT.due("0 1: one is left", TestKit.told(three + "round 0 1;").isRing(), 0);
        KIT.due("2 1 0 1", TestKit.told(three + "round 2 1 0 1;").isRing(), 1);
        KIT.due("twelve", TestKit.told(three + "round 0 1 2 1 0 1 2 1 0 1 2 1;").isRing(), 1);
        KIT.due("twelve, eight minutes without 0", TestKit.told(three + "round 0 1 2 2 2 2 2 2 1 0 0 0;").isRing(), 0);
        KIT.due("twelve, seven minutes without 0", TestKit.told(three + "round 0 1 2 2 2 2 2 1 0 0 0 0;").isRing(), 1);
        // the flame of 2 is fine in the first time around, not in the second
        KIT.due("eleven", TestKit.told(three + "round 0 1 2 1 0 0 0 0 1 0 1;").isRing(), 0);
    }

    private static void longSpans() {
        KIT.part("28 longest");
        LampRounds x = TestKit.told(HEAD + "room wait 7 worth 1;room wait 7 worth 1;");
        KIT.due("longest() of 7", x.longest(), 7);
        x = TestKit.told(HEAD + "room wait 1 worth 1;room wait 1 worth 1;room wait 1 worth 1;way 0 1;way 1 2;way 0 2;");
        KIT.due("longest() of three", x.longest(), 1);
        KIT.due("next() of three", x.next(), -1);
        x = TestKit.told(HEAD + "room wait 2 worth 1;room wait 1 worth 1;room wait 1 worth 1;way 0 1;way 1 2;way 0 2;round 1;");
        // 1: 1 0 1, 2: 2 1 0, then either 0 or 1 goes out
        KIT.due("longest() of three from 1", x.longest(), 2);
    }

    private static void saving() {
        KIT.part("33 to 35 most, saved, given");
        // 0 in the middle of three, each to be looked at every other minute: two can be kept, not three
        LampRounds x = TestKit.told(HEAD + "room wait 1 worth 5;room wait 1 worth 7;room wait 1 worth 7;way 0 1;way 0 2;");
        KIT.due("keeps(6)", x.keeps(6), 0);
        KIT.due("most()", x.most(), 12);
        KIT.due("saved(), the least of two", x.saved(), 3);
        KIT.due("given(), the least of two", x.given(), 2);
        KIT.due("rate(0, 0)", x.rate(0, 0), 5);
        KIT.due("most() then", x.most(), 7);
        KIT.due("saved() then", x.saved(), 3 & ~1);
        x.rate(1, 0);
        x.rate(2, 0);
        KIT.due("most() of nothing", x.most(), 0);
        KIT.due("saved() of nothing", x.saved(), 0);
        KIT.due("given() asks for no worth", x.given(), 2);
    }

    private static void longer() {
        KIT.part("36 longer");
        // three in a row, 3 1 2: 0 1 2 1 wants 3 of the last
        LampRounds x = TestKit.told(HEAD + "room wait 3 worth 5;room wait 1 worth 7;room wait 2 worth 7;way 0 1;way 1 2;");
        KIT.due("longer(2)", x.longer(2), 1);
        // 2 1 2 from the last, then: with the middle waiting 2 longer he can stay at each end for a minute no more
        KIT.due("longer(0)", x.longer(0), -1);
        KIT.due("longer(3)", x.longer(3), -2);
        KIT.due("longer(-1)", x.longer(-1), -2);
        KIT.due("the wait told stays", x.room(2, 0), 2);
        KIT.due("keeps(7) stays", x.keeps(7), 0);
        // two rooms without a way never
        x = TestKit.told(HEAD + "room wait 1 worth 5;room wait 7 worth 7;");
        KIT.due("longer(1) at 7", x.longer(1), -1);
        // by LAW 2 two rooms want 3 and 3
        x = TestKit.told("house law 2 odds 0 minutes 8;room wait 3 worth 1;room wait 1 worth 1;way 0 1;");
        KIT.due("longer(1) by LAW 2", x.longer(1), 1);
    }

    private static void densityAndEven() {
        KIT.part("37, 38 density, even");
        int[][] cases = {
            // waits, above, below, even
            {1, 1, 0, 0, 1, 1, 1}, {1, 2, 0, 0, 5, 6, 0}, {3, 7, 1, 0, 7, 8, 1}, {7, 7, 7, 7, 1, 2, 1},
            {6, 0, 0, 0, 1, 7, 1}, {4, 5, 6, 7, 533, 840, 0}, {1, 2, 4, 0, 31, 30, 0}, {1, 3, 7, 5, 25, 24, 0},
            {2, 5, 5, 1, 7, 6, 0}, {2, 5, 5, 0, 2, 3, 1}, {1, 1, 1, 1, 2, 1, 1}};
        for (int[] c : cases) {
            StringBuilder text = new StringBuilder(HEAD);
            for (int i = 0; i < 4; i++) {
                if (c[i] > 0) {
                    text.append("room wait ").append(c[i]).append(" worth 1;");
                }
            }
            LampRounds x = TestKit.told(text.toString());
            KIT.part("37, 38 " + text);
            KIT.due("density(0)", x.density(0), c[4]);
            KIT.due("density(1)", x.density(1), c[5]);
            KIT.due("density(2)", x.density(2), -2);
            KIT.due("density(-1)", x.density(-1), -2);
            KIT.due("even()", x.even(), c[6]);
        }
    }

    private static void shares() {
        KIT.part("39, 40 shares");
        // 0 - 1 and 2 - 3, each pair to be looked at in turns
        LampRounds x = TestKit.told(HEAD + "room wait 1 worth 1;room wait 1 worth 1;room wait 1 worth 1;room wait 1 worth 1;"
            + "way 0 1;way 2 3;round 2;");
        KIT.due("shares(0)", x.shares(0), 12);
        KIT.due("shares(1)", x.shares(1), 12);
        KIT.due("shares(2)", x.shares(2), -1);
        KIT.due("shares(3)", x.shares(3), -1);
        KIT.due("shares(4)", x.shares(4), -2);
        KIT.due("shares(-1)", x.shares(-1), -2);
        KIT.due("second()", x.second(), 0);
        // another one who goes: he keeps both, the least set is the empty one
        x = TestKit.told(HEAD + "room wait 1 worth 1;room wait 1 worth 1;way 0 1;round 1;");
        KIT.due("shares(1), another who goes", x.shares(1), 0);
        // three without ways: two wardens can't keep them
        x = TestKit.told(HEAD + "room wait 7 worth 1;room wait 7 worth 1;room wait 7 worth 1;");
        KIT.due("second() of three apart", x.second(), -1);
    }

    private static void another() {
        KIT.part("4, 62 what was found is of the HOUSE there is");
        LampRounds x = TestKit.told(HEAD + "room wait 1 worth 3;room wait 1 worth 4;way 0 1;");
        x.image(0);
        KIT.due("states()", x.states(), 6);
        KIT.due("rings(2)", x.rings(2), 2);
        KIT.due("ring()", x.ring(), 2);
        KIT.due("longer(1)", x.longer(1), 0);
        TestKit.tell(x, HEAD + "room wait 1 worth 3;room wait 2 worth 9;");
        KIT.due("states() of another", x.states(), 0);
        KIT.due("rings(2) of another", x.rings(2), 0);
        KIT.due("ring() of another", x.ring(), -1);
        KIT.due("keeps(3) of another", x.keeps(3), 0);
        KIT.due("longest() of another", x.longest(), 2);
        KIT.due("longer(1) of another", x.longer(1), -1);
        x.back(0);
        KIT.due("states() again", x.states(), 6);
        KIT.due("rings(2) again", x.rings(2), 2);
        KIT.due("ring() again", x.ring(), 2);
        KIT.due("keeps(3) again", x.keeps(3), 1);
        KIT.due("longest() again", x.longest(), 100);
        KIT.due("longer(1) again", x.longer(1), 0);
    }

    private static void askedInAnyOrder() {
        KIT.part("25 to 36 asked in any order");
        String one = HEAD + "room wait 1 worth 3;";
        String two = HEAD + "room wait 1 worth 3;room wait 1 worth 4;way 0 1;round 1 0;";
        LampRounds x = TestKit.told(one);
        KIT.due("keeps(0)", x.keeps(0), 1);
        KIT.due("rings(10)", x.rings(10), 1);
        KIT.due("longer(0)", x.longer(0), 0);
        TestKit.tell(x, two);
        KIT.due("keeps(0) of two", x.keeps(0), 1);
        KIT.due("rings(10) of two", x.rings(10), 2);
        KIT.due("keeps(1) ahead of next()", x.keeps(1), 1);
        KIT.due("next()", x.next(), 0);
        KIT.due("keeps(2) ahead of states()", x.keeps(2), 1);
        KIT.due("states()", x.states(), 6);
        TestKit.tell(x, HEAD + "room wait 1 worth 3;room wait 2 worth 9;");
        KIT.due("longer(0) of two apart", x.longer(0), -1);
        KIT.due("next() behind longer()", x.next(), -1);
        KIT.due("longer(1) of two apart", x.longer(1), -1);
        KIT.due("longest() behind longer()", x.longest(), 2);
        KIT.due("keeps(1) ahead of longest()", x.keeps(1), 1);
        KIT.due("longest()", x.longest(), 2);
    }

    private static void rareRings() {
        KIT.part("29 the longest of all shortest rings is of nine");
        LampRounds x = TestKit.told("house law 2 odds 0 minutes 9;room wait 7 worth 1;room wait 7 worth 1;room wait 7 worth 1;"
            + "room wait 7 worth 1;way 0 1;way 0 2;way 0 3;way 2 3;");
        int[] row = {0, 0, 1, 1, 0, 2, 2, 3, 3, -1};
        KIT.due("ring()", x.ring(), 9);
        for (int i = 0; i < row.length; i++) {
            KIT.due("ringed(" + i + ")", x.ringed(i), row[i]);
        }
        // 0 twice ahead of 1 1 or behind it, then 2 2 3 3 or 3 3 2 2: four, and nine turns of each
        KIT.due("rings(9)", x.rings(9), 36);
        KIT.due("rings(10)", x.rings(10), 0);
        KIT.part("29 kept for ever, but by no ring of ten");
        x = TestKit.told("house law 1 odds 0 minutes 9;room wait 7 worth 1;room wait 6 worth 1;room wait 4 worth 1;"
            + "room wait 7 worth 1;way 0 1;way 0 2;way 1 2;way 1 3;way 2 3;");
        KIT.due("keeps(15)", x.keeps(15), 1);
        KIT.due("ring()", x.ring(), -1);
    }
}
