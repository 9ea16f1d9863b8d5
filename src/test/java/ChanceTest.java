/** Promises 50 to 58: CHANCE, SEND, acts, nights drawn; answers worked out by hand. */
public final class ChanceTest {
    private static final TestKit KIT = new TestKit();

    public static void main(String[] args) {
        chance();
        mean();
        send();
        visit();
        nods();
        undoAndAnew();
        drawn();
        luck();
        noRooms();
        noHouse();
        KIT.close("ChanceTest");
    }

    /** The flame of 1 lasts to MINUTE 1 by itself, to 4 if the visitor comes at 2. */
    private static String onOdds(int odds, String visitors) {
        return "house law 0 odds " + odds + " minutes 6;room wait 7 worth 1;room wait 2 worth 1;" + visitors + "round 0;";
    }

    private static void fraction(String call, int above, int below, int wantAbove, int wantBelow) {
        KIT.due(call + " above", above, wantAbove);
        KIT.due(call + " below", below, wantBelow);
    }

    private static void chance() {
        KIT.part("50 chance");
        LampRounds x = TestKit.told(onOdds(4, "visitor in 1 at 2;"));
        int[][] want = {{1, 1}, {1, 1}, {2, 5}, {2, 5}, {2, 5}, {0, 1}};
        for (int t = 0; t < 6; t++) {
            fraction("chance(" + t + ")", x.chance(t, 0), x.chance(t, 1), want[t][0], want[t][1]);
        }
        KIT.due("chance(6, 0)", x.chance(6, 0), -2);
        KIT.due("chance(-1, 0)", x.chance(-1, 0), -2);
        KIT.due("chance(0, 2)", x.chance(0, 2), -2);
        KIT.due("chance(0, -1)", x.chance(0, -1), -2);
        // he comes at 1 or at 2: all but 3/10 * 3/10
        x = TestKit.told(onOdds(7, "visitor in 1 at 1;visitor in 1 at 2;"));
        fraction("chance(3) of two", x.chance(3, 0), x.chance(3, 1), 91, 100);
        fraction("chance(4) of two", x.chance(4, 0), x.chance(4, 1), 7, 10);
        // five of odds 1 at the same MINUTE: all but (9/10)^5
        x = TestKit.told(onOdds(1, "visitor in 1 at 2;visitor in 1 at 2;visitor in 1 at 2;visitor in 1 at 2;visitor in 1 at 2;"));
        fraction("chance(2) of five", x.chance(2, 0), x.chance(2, 1), 40951, 100000);
        // visits of acts always come
        x = TestKit.told(onOdds(0, "visitor in 1 at 2;"));
        fraction("chance(2) of odds 0", x.chance(2, 0), x.chance(2, 1), 0, 1);
        x.visit(1, 2);
        fraction("chance(2) with a visit", x.chance(2, 0), x.chance(2, 1), 1, 1);
        x = TestKit.told(onOdds(10, "visitor in 1 at 2;"));
        fraction("chance(2) of odds 10", x.chance(2, 0), x.chance(2, 1), 1, 1);
    }

    private static void mean() {
        KIT.part("51 mean");
        LampRounds x = TestKit.told(onOdds(4, "visitor in 1 at 2;"));
        int[][] want = {{2, 1}, {2, 1}, {7, 5}, {7, 5}, {7, 5}, {1, 1}};
        for (int t = 0; t < 6; t++) {
            fraction("mean(" + t + ")", x.mean(t, 0), x.mean(t, 1), want[t][0], want[t][1]);
        }
        KIT.due("mean(6, 0)", x.mean(6, 0), -2);
        KIT.due("mean(-1, 1)", x.mean(-1, 1), -2);
        KIT.due("mean(0, 2)", x.mean(0, 2), -2);
        KIT.due("mean(0, -1)", x.mean(0, -1), -2);
    }

    private static void send() {
        KIT.part("52 send");
        // 1 goes out at 2; a visitor at 2 puts it off to 5
        LampRounds x = TestKit.told(onOdds(5, ""));
        KIT.due("dark(0)", x.dark(0), 2);
        KIT.due("send()", x.send(), 102);
        x.visit(1, 2);
        KIT.due("dark(0) then", x.dark(0), 5);
        // at 3, 4 or 5 it is never: the first of several
        KIT.due("send() then", x.send(), 103);
        x.visit(1, 3);
        KIT.due("dark(0) at last", x.dark(0), -1);
        KIT.due("send() at last", x.send(), -1);
        // two go out at once: one visitor is of no use
        x = TestKit.told("house law 0 odds 0 minutes 6;room wait 7 worth 1;room wait 2 worth 1;room wait 2 worth 1;round 0;");
        KIT.due("send() of two", x.send(), -1);
        // several MINUTES of equal use, the first; and a visitor told comes
        x = TestKit.told("house law 0 odds 0 minutes 4;room wait 7 worth 1;room wait 2 worth 1;round 0;");
        KIT.due("send(), the first MINUTE", x.send(), 101);
        x = TestKit.told("house law 0 odds 0 minutes 4;room wait 7 worth 1;room wait 2 worth 1;visitor in 1 at 1;round 0;");
        KIT.due("send(), none is needed", x.send(), -1);
        x = TestKit.told("house law 0 odds 0 minutes 4;room wait 2 worth 1;room wait 7 worth 1;way 0 1;round 1;");
        KIT.due("send() to ROOM 0", x.send(), 1);
    }

    private static void visit() {
        KIT.part("53 visit");
        LampRounds x = TestKit.told("house law 1 odds 5 minutes 6;room wait 7 worth 1;room wait 4 worth 1;round 0;");
        KIT.due("age(0, 1, 3)", x.age(0, 1, 3), 4);
        KIT.due("visit(1, 3)", x.visit(1, 3), 1);
        KIT.due("age(0, 1, 4)", x.age(0, 1, 4), 2);
        KIT.due("age(1, 1, 3), MODE 1 too", x.age(1, 1, 3), 1);
        KIT.due("visit(1, 3) once more: one or both is one look", x.visit(1, 3), 1);
        KIT.due("looks", x.looks(0, 1), 1);
        KIT.due("acts", x.count(7), 2);
        KIT.due("visit(2, 0)", x.visit(2, 0), -2);
        KIT.due("visit(-1, 0)", x.visit(-1, 0), -2);
        KIT.due("visit(0, 6)", x.visit(0, 6), -2);
        KIT.due("visit(0, -1)", x.visit(0, -1), -2);
        KIT.due("acts", x.count(7), 2);
        x = TestKit.told("house law 0 odds 5 minutes 6;room wait 7 worth 1;room wait 2 worth 1;round 0;");
        KIT.due("visit of one that is out", x.visit(1, 4), 99);
        KIT.due("visit ahead", x.visit(1, 2), 0);
        KIT.due("age(0, 1, 4) then", x.age(0, 1, 4), 0);
        for (int i = 2; i < 30; i++) {
            KIT.due("visit #" + i, x.visit(0, 0), 0);
        }
        KIT.due("acts", x.count(7), 30);
        KIT.due("a 31st", x.visit(0, 0), -5);
        KIT.due("a 31st, no such ROOM", x.visit(2, 0), -2);
        KIT.due("a 31st nod", x.nods(0), -5);
        KIT.due("a 31st nod, no such MINUTE", x.nods(6), -2);
        KIT.due("acts", x.count(7), 30);
        KIT.due("undo()", x.undo(), 29);
        KIT.due("the 30th again", x.nods(0), 3);
    }

    private static void nods() {
        KIT.part("54 nods");
        LampRounds x = TestKit.told("house law 0 odds 5 minutes 6;room wait 1 worth 1;room wait 7 worth 1;round 0;");
        KIT.due("nods(2)", x.nods(2), 3);
        KIT.due("nods(1), two together", x.nods(1), 3);
        KIT.due("burns(0, 2)", x.burns(0, 2), 2);
        KIT.due("nods(2) again", x.nods(2), 2);
        KIT.due("nods(6)", x.nods(6), -2);
        KIT.due("nods(-1)", x.nods(-1), -2);
        KIT.due("acts", x.count(7), 3);
    }

    private static void undoAndAnew() {
        KIT.part("55, 56 undo, anew");
        LampRounds x = TestKit.told("house law 0 odds 5 minutes 6;room wait 1 worth 1;room wait 2 worth 1;round 0;");
        KIT.due("undo() of none", x.undo(), -5);
        KIT.due("anew() of none", x.anew(), 0);
        KIT.due("dark(0)", x.dark(0), 2);
        x.visit(1, 2);
        x.nods(1);
        x.nods(2);
        KIT.due("dark(0) then", x.dark(0), 2);
        KIT.due("undo()", x.undo(), 2);
        KIT.due("dark(0) without the last", x.dark(0), 5);
        KIT.due("undo()", x.undo(), 1);
        KIT.due("undo()", x.undo(), 0);
        KIT.due("undo()", x.undo(), -5);
        KIT.due("dark(0) as at first", x.dark(0), 2);
        x.visit(1, 2);
        x.visit(1, 5);
        KIT.due("dark(0)", x.dark(0), -1);
        KIT.due("anew()", x.anew(), 2);
        KIT.due("anew()", x.anew(), 0);
        KIT.due("dark(0)", x.dark(0), 2);
    }

    private static void drawn() {
        KIT.part("57 drawn");
        // from 0: x is 12345, /65536 0; then 1406932606: 21468, 8; 654583775: 9988, 8; 1449466924: 22117, 7; 229283573: 3498, 8
        String five = "visitor in 1 at 2;visitor in 1 at 5;visitor in 0 at 3;visitor in 1 at 29;visitor in 1 at 5;";
        int[] want = {0, 1, 1, 1, 1, 1, 1, 1, 9, 31, 31};
        for (int odds = 0; odds <= 10; odds++) {
            LampRounds x = TestKit.told(onOdds(odds, five));
            KIT.due("drawn(0, 0) by odds " + odds, x.drawn(0, 0), want[odds]);
            int dark = odds == 0 ? 2 : odds < 9 ? 5 : -1;
            KIT.due("drawn(0, 1) by odds " + odds, x.drawn(0, 1), dark);
        }
        LampRounds x = TestKit.told(onOdds(5, five));
        KIT.due("drawn(2000000000, 0)", x.drawn(2000000000, 0) >= 0 ? 1 : 0, 1);
        KIT.due("drawn(2000000001, 0)", x.drawn(2000000001, 0), -2);
        KIT.due("drawn(-1, 0)", x.drawn(-1, 0), -2);
        KIT.due("drawn(min, 0)", x.drawn(Integer.MIN_VALUE, 0), -2);
        KIT.due("drawn(max, 0)", x.drawn(Integer.MAX_VALUE, 0), -2);
        KIT.due("drawn(0, 2)", x.drawn(0, 2), -2);
        KIT.due("drawn(0, -1)", x.drawn(0, -1), -2);
        x.visit(1, 4);
        KIT.due("drawn(0, 1) with a visit", x.drawn(0, 1), -1);
    }

    private static void luck() {
        KIT.part("58 luck");
        LampRounds x = TestKit.told(onOdds(5, "visitor in 1 at 2;visitor in 1 at 5;"));
        for (int n = 1; n <= 20; n++) {
            int dying = 0;
            for (int i = 0; i < n; i++) {
                dying += x.drawn(1000 + i, 1) >= 0 ? 1 : 0;
            }
            KIT.due("luck(1000, " + n + ", 1)", x.luck(1000, n, 1), dying);
            KIT.due("luck(1000, " + n + ", 0)", x.luck(1000, n, 0), 0);
        }
        KIT.due("luck(2000000000, 20, 1)", x.luck(2000000000, 20, 1) >= 0 ? 1 : 0, 1);
        KIT.due("luck(2000000001, 1, 1)", x.luck(2000000001, 1, 1), -2);
        KIT.due("luck(-1, 1, 1)", x.luck(-1, 1, 1), -2);
        KIT.due("luck(0, 0, 1)", x.luck(0, 0, 1), -2);
        KIT.due("luck(0, 21, 1)", x.luck(0, 21, 1), -2);
        KIT.due("luck(0, -1, 1)", x.luck(0, -1, 1), -2);
        KIT.due("luck(0, 1, 2)", x.luck(0, 1, 2), -2);
        KIT.due("luck(0, 1, -1)", x.luck(0, 1, -1), -2);
    }

    private static void noRooms() {
        KIT.part("50 to 58 no rooms");
        LampRounds x = TestKit.told("house law 0 odds 5 minutes 6;");
        fraction("chance(0)", x.chance(0, 0), x.chance(0, 1), 1, 1);
        fraction("mean(5)", x.mean(5, 0), x.mean(5, 1), 0, 1);
        KIT.due("send()", x.send(), -1);
        KIT.due("visit(0, 0)", x.visit(0, 0), -2);
        KIT.due("nods(0)", x.nods(0), 0);
        KIT.due("undo()", x.undo(), 0);
        KIT.due("drawn(5, 0)", x.drawn(5, 0), 0);
        KIT.due("drawn(5, 1)", x.drawn(5, 1), -1);
        KIT.due("luck(5, 1, 0)", x.luck(5, 1, 0), -2);
    }

    private static void noHouse() {
        KIT.part("50 to 58 no house");
        LampRounds x = new LampRounds();
        KIT.due("chance(0, 0)", x.chance(0, 0), -2);
        KIT.due("mean(0, 0)", x.mean(0, 0), -2);
        KIT.due("send()", x.send(), -2);
        KIT.due("visit(0, 0)", x.visit(0, 0), -2);
        KIT.due("nods(0)", x.nods(0), -2);
        KIT.due("undo()", x.undo(), -2);
        KIT.due("anew()", x.anew(), -2);
        KIT.due("drawn(0, 0)", x.drawn(0, 0), -2);
        KIT.due("luck(0, 1, 0)", x.luck(0, 1, 0), -2);
        KIT.due("rate(0, 0)", x.rate(0, 0), -2);
    }
}
