/** Promises 1 to 9: the tape, the house, its faults, rooms, ways. */
public final class TextTest {
    private static final TestKit KIT = new TestKit();
    private static final String HEAD = "house law 0 odds 0 minutes 8;";

    public static void main(String[] args) {
        newObject();
        feed();
        end();
        house();
        faults();
        faultsThatStay();
        rooms();
        doorsAndDistances();
        round();
        KIT.close("TextTest");
    }

    private static void newObject() {
        KIT.part("1 a new object");
        LampRounds x = new LampRounds();
        KIT.due("NONE", LampRounds.NONE, -1);
        for (int what = 0; what <= 10; what++) {
            KIT.due("count(" + what + ")", x.count(what), 0);
        }
        KIT.due("at(0, 0)", x.at(0, 0), -2);
        KIT.due("dark(0)", x.dark(0), -2);
        KIT.due("states()", x.states(), -2);
        KIT.due("undo()", x.undo(), -2);
        KIT.due("anew()", x.anew(), -2);
        KIT.due("back(0)", x.back(0), -6);
    }

    private static void feed() {
        KIT.part("2 feed");
        LampRounds x = new LampRounds();
        for (int i = 1; i <= 25; i++) {
            KIT.due("feed #" + i, x.feed(1, 2, 3, 4, 5), 20 * i);
        }
        KIT.due("feed beyond 500", x.feed(0, 0, 0, 0, 0), -1);
        KIT.due("count(9)", x.count(9), 500);
        x.end(481);
        KIT.due("feed at 481", x.feed(0, 0, 0, 0, 0), -1);
        x.end(480);
        KIT.due("feed at 480", x.feed(0, 0, 0, 0, 0), 500);
        // "hous" "e la" "w 0 " "odds" " 0 m", the highest byte first, then "inut" "es 7" ";" and three blanks
        LampRounds y = new LampRounds();
        y.feed(0x686f7573, 0x65206c61, 0x77203020, 0x6f646473, 0x2030206d);
        y.feed(0x696e7574, 0x65732037, 0x3b202020, 0x20202020, 0x0a0a0a0a);
        KIT.due("house()", y.house(), 1);
        KIT.due("minutes", y.count(2), 7);
    }

    private static void end() {
        KIT.part("3 end");
        LampRounds x = new LampRounds();
        KIT.due("end(0)", x.end(0), 0);
        KIT.due("end(1)", x.end(1), -1);
        x.feed(1, 1, 1, 1, 1);
        KIT.due("end(-1)", x.end(-1), -1);
        KIT.due("end(min)", x.end(Integer.MIN_VALUE), -1);
        KIT.due("end(max)", x.end(Integer.MAX_VALUE), -1);
        KIT.due("end(21)", x.end(21), -1);
        KIT.due("count(9)", x.count(9), 20);
        KIT.due("end(20)", x.end(20), 20);
        KIT.due("end(7)", x.end(7), 7);
        KIT.due("count(9)", x.count(9), 7);
        KIT.due("feed behind 7", x.feed(1, 1, 1, 1, 1), 27);
    }

    private static void house() {
        KIT.part("4 house");
        LampRounds x = new LampRounds();
        KIT.due("empty tape", x.house(), 0);
        KIT.due("head alone", TestKit.tell(x, HEAD), 1);
        KIT.due("tape", x.count(9), 0);
        KIT.due("lines", x.count(8), 1);
        String full = "house law 3 odds 10 minutes 30;room wait 7 worth 99;room wait 1 worth 0;way 0 1;way 1 0;"
            + "visitor in 1 at 29;round 0 1 0;";
        KIT.due("seven lines", TestKit.tell(x, full), 7);
        int[] counts = {3, 10, 30, 2, 2, 1, 3, 0, 7, 0, 0};
        for (int what = 0; what < counts.length; what++) {
            KIT.due("count(" + what + ")", x.count(what), counts[what]);
        }
        x.nods(3);
        KIT.due("acts", x.count(7), 1);
        KIT.due("the same again", TestKit.tell(x, full), 7);
        KIT.due("nothing done", x.count(7), 0);
        KIT.due("no blanks", TestKit.tell(x, "house law0odds10minutes30;room wait1worth0;round0;"), 3);
        KIT.due("blanks anywhere", TestKit.tell(x, " \n house\nlaw  1 odds 007 minutes 0000000000012 ; \n"), 1);
        KIT.due("odds", x.count(1), 7);
        KIT.due("minutes", x.count(2), 12);
        KIT.due("blanks alone", TestKit.tell(x, " \n\n "), 0);
        KIT.due("none then", x.count(8), 0);
        KIT.due("none then", x.dark(0), -2);
        KIT.due("law", x.count(0), 0);
        KIT.due("no round without a house", x.round(0), -2);
    }

    private static void fault(String text, int fault, int place) {
        LampRounds x = new LampRounds();
        String shown = text.replace('\n', '/');
        KIT.due("house of " + shown, TestKit.tell(x, text), fault == 0 ? x.count(8) : -4);
        KIT.due("fault(0) of " + shown, x.fault(0), fault);
        KIT.due("fault(1) of " + shown, x.fault(1), place);
        KIT.due("tape of " + shown, x.count(9), 0);
    }

    /** The FAULT is expected at the place of the sign '@', which is taken out of the text. */
    private static void faultAt(int fault, String text) {
        int place = text.indexOf('@');
        fault(text.substring(0, place) + text.substring(place + 1), fault, place);
    }

    private static void faults() {
        KIT.part("4, 5 faults");
        faultAt(1, "house law 0@");
        faultAt(2, "house law @4 odds");
        faultAt(2, "house law 0 odds @11 minutes 8;");
        faultAt(2, "house law 0 odds 0 minutes @31;");
        faultAt(2, "house law 0 odds 0 minutes @0;");
        faultAt(2, "house law 0 odds 0 minutes @99999999999999999999;");
        faultAt(2, "house law @4294967296 odds 0 minutes 8;");
        faultAt(1, "house law 0 odds 0 minutes 8@");
        faultAt(1, "house law 0 odds 0 minutes 8 \n@");
        faultAt(1, "@room");
        faultAt(1, "  @room wait 1 worth 1;");
        faultAt(1, "@;");
        faultAt(1, "@7");
        faultAt(1, "@houses law 0 odds 0 minutes 8;");
        faultAt(1, "@housez law 0 odds 0 minutes 8;");
        faultAt(1, "@ahouse law 0 odds 0 minutes 8;");
        faultAt(1, "house@{law 0 odds 0 minutes 8;");
        faultAt(1, "house@`law 0 odds 0 minutes 8;");
        faultAt(1, "house law 0@/odds 0 minutes 8;");
        faultAt(1, "house law 0@:odds 0 minutes 8;");
        faultAt(1, "@House law 0 odds 0 minutes 8;");
        faultAt(1, "house @odds 0 minutes 8;");
        faultAt(1, "house law @-1 odds 0 minutes 8;");
        faultAt(1, "house law @odds 0 minutes 8;");
        faultAt(1, "house@\tlaw 0 odds 0 minutes 8;");
        faultAt(1, HEAD + "@\u0000");
        faultAt(1, HEAD + "@\u00e9");
        faultAt(1, HEAD + "@;");
        faultAt(1, HEAD + "@house law 0 odds 0 minutes 8;");
        faultAt(1, HEAD + "@law;");
        faultAt(1, HEAD + "@rooms;");
        faultAt(1, HEAD + "@12;");
        faultAt(1, HEAD + "room @worth 1;");
        faultAt(2, HEAD + "room wait @0 worth 1;");
        faultAt(2, HEAD + "room wait @8 worth 1;");
        faultAt(2, HEAD + "room wait 7 worth @100;");
        faultAt(1, HEAD + "room wait 7 worth 99 @room wait 1 worth 1;");
        faultAt(1, HEAD + "room wait 7 worth 99 @3;");
        faultAt(2, HEAD + "way @0 1;");
        String two = HEAD + "room wait 1 worth 1;room wait 2 worth 2;";
        faultAt(2, two + "way 0 @0;");
        faultAt(2, two + "way @2 0;");
        faultAt(2, two + "way 0 @2;");
        faultAt(1, two + "way 0@;");
        faultAt(1, two + "way @;");
        faultAt(1, two + "way 0 1 @0;");
        faultAt(2, two + "visitor in @2 at 0;");
        faultAt(2, two + "visitor in 1 at @30;");
        faultAt(1, two + "visitor @1 at 3;");
        faultAt(1, two + "visitor in 1 @in 3;");
        faultAt(1, two + "round @;");
        faultAt(2, two + "round 0 1 @2 7;");
        faultAt(1, two + "round 0 1 @way;");
        faultAt(3, two + "round 0;@round 1;");
        faultAt(3, two + "round 0;@round");
        faultAt(3, two + "round 0 1 0 1 0 1 0 1 0 1 0 1 @0;");
        faultAt(2, two + "round 0 1 0 1 0 1 0 1 0 1 0 1 @2;");
        faultAt(1, two + "round 0 1 0 1 0 1 0 1 0 1 0 1 @x;");
        fault(two + "round 0 1 0 1 0 1 0 1 0 1 0 1;", 0, -1);
        String four = two + "room wait 3 worth 3;room wait 4 worth 4;";
        faultAt(3, four + "@room wait 9 worth 100;");
        String six = two + "way 0 1;way 0 1;way 0 1;way 0 1;way 0 1;way 0 1;";
        fault(six, 0, -1);
        faultAt(3, six + "@way 0 0;");
        String five = two + "visitor in 0 at 0;visitor in 0 at 0;visitor in 0 at 0;visitor in 0 at 0;visitor in 1 at 29;";
        fault(five, 0, -1);
        faultAt(3, five + " \n@visitor in 0 at 0;");
        // the first by its place, whatever stands behind it
        faultAt(2, HEAD + "room wait @8 worth 100; $ house");
        faultAt(1, HEAD + "@$ room wait 8");
    }

    private static void faultsThatStay() {
        KIT.part("4, 5 all stays");
        LampRounds x = new LampRounds();
        KIT.due("fault(0) ahead of any", x.fault(0), 0);
        KIT.due("fault(1) ahead of any", x.fault(1), -1);
        KIT.due("fault(2)", x.fault(2), -1);
        KIT.due("fault(-1)", x.fault(-1), -1);
        TestKit.tell(x, HEAD + "room wait 3 worth 5;round 0;");
        x.visit(0, 2);
        KIT.due("faulty text", TestKit.tell(x, "house law 9"), -4);
        KIT.due("fault(0)", x.fault(0), 2);
        KIT.due("fault(1)", x.fault(1), 10);
        KIT.due("fault(2)", x.fault(2), -1);
        KIT.due("lines stay", x.count(8), 3);
        KIT.due("acts stay", x.count(7), 1);
        KIT.due("wait stays", x.room(0, 0), 3);
        KIT.due("good text", TestKit.tell(x, HEAD), 1);
        KIT.due("fault(0) without", x.fault(0), 0);
        KIT.due("fault(1) without", x.fault(1), -1);
        TestKit.tell(x, "x");
        x.house();
        KIT.due("fault(0) of an empty tape", x.fault(0), 0);
        KIT.due("no house", x.count(8), 0);
    }

    private static void rooms() {
        KIT.part("6 room");
        LampRounds x = TestKit.told(HEAD + "room wait 7 worth 0;room wait 1 worth 99;");
        KIT.due("room(0, 0)", x.room(0, 0), 7);
        KIT.due("room(0, 1)", x.room(0, 1), 0);
        KIT.due("room(1, 0)", x.room(1, 0), 1);
        KIT.due("room(1, 1)", x.room(1, 1), 99);
        KIT.due("room(2, 0)", x.room(2, 0), -2);
        KIT.due("room(-1, 0)", x.room(-1, 0), -2);
        KIT.due("room(0, 2)", x.room(0, 2), -2);
        KIT.due("room(0, -1)", x.room(0, -1), -2);
        KIT.due("room(max, 0)", x.room(Integer.MAX_VALUE, 0), -2);
    }

    private static void doorsAndDistances() {
        KIT.part("7, 8 doors, far");
        // 0 - 1 - 2, and 3 apart; one way told twice
        LampRounds x = TestKit.told(HEAD + "room wait 7 worth 0;room wait 1 worth 9;room wait 2 worth 1;"
            + "room wait 1 worth 1;way 1 0;way 1 2;way 2 1;");
        int[] doors = {2, 5, 2, 0};
        int[][] far = {{0, 1, 2, -1}, {1, 0, 1, -1}, {2, 1, 0, -1}, {-1, -1, -1, 0}};
        for (int r = 0; r < 4; r++) {
            KIT.due("doors(" + r + ")", x.doors(r), doors[r]);
            for (int s = 0; s < 4; s++) {
                KIT.due("far(" + r + ", " + s + ")", x.far(r, s), far[r][s]);
            }
        }
        KIT.due("ways", x.count(4), 3);
        KIT.due("doors(4)", x.doors(4), -2);
        KIT.due("doors(-1)", x.doors(-1), -2);
        KIT.due("far(0, 4)", x.far(0, 4), -2);
        KIT.due("far(4, 0)", x.far(4, 0), -2);
        KIT.due("far(-1, 0)", x.far(-1, 0), -2);
        LampRounds line = TestKit.told(HEAD + "room wait 7 worth 0;room wait 1 worth 9;room wait 2 worth 1;"
            + "room wait 1 worth 1;way 3 0;way 0 2;way 2 1;");
        KIT.due("far(3, 1)", line.far(3, 1), 3);
        KIT.due("far(1, 3)", line.far(1, 3), 3);
    }

    private static void round() {
        KIT.part("9 round");
        LampRounds x = TestKit.told(HEAD + "room wait 7 worth 0;room wait 1 worth 9;round 1 0 0;");
        KIT.due("round(0)", x.round(0), 1);
        KIT.due("round(1)", x.round(1), 0);
        KIT.due("round(2)", x.round(2), 0);
        KIT.due("round(3)", x.round(3), -1);
        KIT.due("round(12)", x.round(12), -1);
        KIT.due("round(max)", x.round(Integer.MAX_VALUE), -1);
        KIT.due("round(-1)", x.round(-1), -2);
        TestKit.tell(x, HEAD);
        KIT.due("round(0) without one", x.round(0), -1);
    }
}
