import java.math.BigInteger;
import java.util.function.ToIntFunction;

/** Boundary cases of Terms IX, and of promises 50 to 58. */
final class ChanceEdges {
    private static final String EMPTY = "house law 0 odds 5 minutes 6;";
    private static final int[] NO_MINUTES_OF_SIX = {-1, 6, 30, Integer.MIN_VALUE, Integer.MAX_VALUE};
    private static final int[] NO_ROOMS_OF_TWO = {-1, 2, 4, Integer.MIN_VALUE, Integer.MAX_VALUE};
    private static final int[] NO_CHOICE = {-1, 2, Integer.MIN_VALUE, Integer.MAX_VALUE};

    private final EdgeKit kit;

    private ChanceEdges(EdgeKit kit) {
        this.kit = kit;
    }

    static void run(EdgeKit kit) {
        ChanceEdges edges = new ChanceEdges(kit);
        edges.byHimself();
        edges.lowestTerms();
        edges.draws();
        edges.chance();
        edges.mean();
        edges.send();
        edges.visit();
        edges.nods();
        edges.undo();
        edges.anew();
        edges.drawn();
        edges.luck();
    }

    // ---- what these tests share

    /** The warden stays in 0; the flame of 1 goes out at 2, or at 5 if one looks at 2. */
    private static LampRounds told(int odds, String visitors) {
        return TestKit.told("house law 0 odds " + odds + " minutes 6;room wait 7 worth 1;room wait 2 worth 1;" + visitors);
    }

    private void chance(LampRounds x, int minute, int above, int below) {
        kit.due("chance(" + minute + ", 0)", x.chance(minute, 0), above);
        kit.due("chance(" + minute + ", 1)", x.chance(minute, 1), below);
    }

    private void mean(LampRounds x, int minute, int above, int below) {
        kit.due("mean(" + minute + ", 0)", x.mean(minute, 0), above);
        kit.due("mean(" + minute + ", 1)", x.mean(minute, 1), below);
    }

    private void noHouse(String call, ToIntFunction<LampRounds> ask) {
        kit.due(call + " of a new object", ask.applyAsInt(new LampRounds()), -2);
        LampRounds x = told(5, "visitor in 1 at 2;");
        x.house();
        kit.due(call + ", the HOUSE gone", ask.applyAsInt(x), -2);
    }

    /** Acts that change nothing: visits in 0, where he is. */
    private static void act(LampRounds x, int n) {
        for (int i = 0; i < n; i++) {
            x.visit(0, i % 6);
        }
    }

    // ---- IX

    private void byHimself() {
        kit.term("IX", "CHANCE: each visitor told comes with odds in ten, by himself");
        for (int odds = 0; odds <= 10; odds++) {
            LampRounds x = told(odds, "visitor in 1 at 2;visitor in 1 at 2;");
            int both = 100 - (10 - odds) * (10 - odds);
            int divisor = BigInteger.valueOf(both).gcd(BigInteger.valueOf(100)).intValue();
            chance(x, 2, both / divisor, 100 / divisor);
        }
        String five = "visitor in 1 at 2;".repeat(5);
        chance(told(1, five), 2, 40951, 100000);
        chance(told(9, five), 2, 99999, 100000);
        chance(told(10, five), 2, 1, 1);
        chance(told(0, five), 2, 0, 1);
        chance(told(5, ""), 2, 0, 1);
        kit.term("IX", "(visits of acts always)");
        LampRounds x = told(0, "visitor in 1 at 2;");
        x.visit(1, 2);
        chance(x, 2, 1, 1);
        chance(x, 4, 1, 1);
        chance(x, 5, 0, 1);
        kit.due("drawn(0, 1)", x.drawn(0, 1), 5);
    }

    private void lowestTerms() {
        kit.term("IX", "FRACTIONS are told in lowest terms (0 / 1).");
        chance(told(5, "visitor in 1 at 2;"), 2, 1, 2);
        chance(told(4, "visitor in 1 at 2;"), 2, 2, 5);
        chance(told(3, "visitor in 1 at 2;"), 2, 3, 10);
        chance(told(5, "visitor in 1 at 2;"), 5, 0, 1);
        mean(told(5, "visitor in 1 at 2;"), 2, 3, 2);
        mean(told(0, "visitor in 1 at 2;"), 2, 1, 1);
        LampRounds none = TestKit.told("house law 0 odds 5 minutes 6;room wait 1 worth 1;visitor in 0 at 9;");
        none.nods(0);
        none.nods(1);
        mean(none, 1, 0, 1);
        kit.due("density(1) without ROOMS", TestKit.told(EMPTY).density(1), 1);
    }

    private static int comers(long seed, int odds, int visitors) {
        BigInteger x = BigInteger.valueOf(seed);
        int bits = 0;
        for (int v = 0; v < visitors; v++) {
            x = x.multiply(BigInteger.valueOf(1103515245L)).add(BigInteger.valueOf(12345L)).mod(BigInteger.valueOf(2147483648L));
            bits |= x.divide(BigInteger.valueOf(65536L)).mod(BigInteger.TEN).intValue() < odds ? 1 << v : 0;
        }
        return bits;
    }

    private void draws() {
        String five = "visitor in 1 at 2;visitor in 1 at 5;visitor in 0 at 3;visitor in 1 at 29;visitor in 1 at 5;";
        kit.term("IX", "DRAWS: x becomes (1103515245 x + 12345) modulo 2,147,483,648 (at first it is the seed)");
        int[] seeds = {0, 1, 2, 65535, 65536, 12345, 999999999, 1999999999, 2000000000};
        for (int seed : seeds) {
            for (int odds = 1; odds < 10; odds++) {
                kit.due("drawn(" + seed + ", 0) by " + odds, told(odds, five).drawn(seed, 0), comers(seed, odds, 5));
            }
        }
        kit.term("IX", "a draw: x / 65536, cut, modulo 10.");
        // from 0: 12345 / 65536 is cut to 0; then 21468, 9988, 22117, 3498: draws 0 8 8 7 8
        int[] bits = {0, 1, 1, 1, 1, 1, 1, 1, 9, 31, 31};
        for (int odds = 0; odds <= 10; odds++) {
            kit.due("drawn(0, 0) by " + odds, told(odds, five).drawn(0, 0), bits[odds]);
        }
        kit.term("IX", "A night drawn: visitor by visitor a draw: below odds he comes.");
        kit.due("drawn(0, 0), a draw of 7 by 7", told(7, five).drawn(0, 0), 1);
        kit.due("drawn(0, 0), a draw of 7 by 8", told(8, five).drawn(0, 0), 9);
        kit.due("drawn(0, 0), a draw of 0 by 0", told(0, five).drawn(0, 0), 0);
        kit.due("drawn(0, 0), a draw of 0 by 1", told(1, five).drawn(0, 0), 1);
        kit.due("drawn(0, 0), one visitor", told(9, "visitor in 1 at 2;").drawn(0, 0), 1);
        kit.due("drawn(0, 0), no visitor", told(10, "").drawn(0, 0), 0);
    }

    // ---- promises 50 to 52

    private void chance() {
        kit.promise(50, "CHANCE (IX): that all flames burn to the end of a MINUTE, by MODE 0, above (what 0), below (1).");
        LampRounds x = told(4, "visitor in 1 at 2;");
        int[][] due = {{1, 1}, {1, 1}, {2, 5}, {2, 5}, {2, 5}, {0, 1}};
        for (int t = 0; t < 6; t++) {
            chance(x, t, due[t][0], due[t][1]);
        }
        chance(told(4, "visitor in 1 at 6;visitor in 1 at 29;"), 2, 0, 1);
        chance(TestKit.told(EMPTY), 0, 1, 1);
        chance(TestKit.told(EMPTY), 5, 1, 1);
        // MODE 1 would keep both
        LampRounds mode = TestKit.told("house law 0 odds 0 minutes 6;room wait 1 worth 1;room wait 1 worth 1;way 0 1;");
        kit.due("dark(1)", mode.dark(1), -1);
        chance(mode, 1, 0, 1);
        kit.promise(50, "-2: there are none such.");
        for (int minute : NO_MINUTES_OF_SIX) {
            kit.due("chance(" + minute + ", 0)", x.chance(minute, 0), -2);
            kit.due("chance(" + minute + ", 1) without ROOMS", TestKit.told(EMPTY).chance(minute, 1), -2);
        }
        for (int what : NO_CHOICE) {
            kit.due("chance(0, " + what + ")", x.chance(0, what), -2);
        }
        noHouse("chance(0, 0)", y -> y.chance(0, 0));
        noHouse("chance(0, 1)", y -> y.chance(0, 1));
    }

    private void mean() {
        kit.promise(51, "The mean number of flames that burn then, above, below.");
        LampRounds x = told(4, "visitor in 1 at 2;");
        int[][] due = {{2, 1}, {2, 1}, {7, 5}, {7, 5}, {7, 5}, {1, 1}};
        for (int t = 0; t < 6; t++) {
            mean(x, t, due[t][0], due[t][1]);
        }
        mean(told(1, "visitor in 1 at 2;".repeat(5)), 2, 140951, 100000);
        LampRounds four = TestKit.told("house law 0 odds 1 minutes 30;room wait 7 worth 1;room wait 7 worth 1;room wait 7 worth 1;"
            + "room wait 7 worth 1;visitor in 1 at 7;visitor in 2 at 7;visitor in 3 at 7;visitor in 3 at 7;visitor in 3 at 7;");
        mean(four, 6, 4, 1);
        // 1 and 1/10 and 1/10 and 271/1000
        mean(four, 7, 1471, 1000);
        mean(four, 29, 1, 1);
        mean(TestKit.told(EMPTY), 5, 0, 1);
        kit.promise(51, "-2 likewise.");
        for (int minute : NO_MINUTES_OF_SIX) {
            kit.due("mean(" + minute + ", 0)", x.mean(minute, 0), -2);
            kit.due("mean(" + minute + ", 1) without ROOMS", TestKit.told(EMPTY).mean(minute, 1), -2);
        }
        for (int what : NO_CHOICE) {
            kit.due("mean(0, " + what + ")", x.mean(0, what), -2);
        }
        noHouse("mean(0, 0)", y -> y.mean(0, 0));
        noHouse("mean(0, 1)", y -> y.mean(0, 1));
    }

    private void send() {
        kit.promise(52, "SEND: 100 times a ROOM and a MINUTE of a visitor besides, by whom dark() of MODE 0 is latest");
        kit.due("send()", told(5, "").send(), 102);
        LampRounds zero = TestKit.told("house law 0 odds 0 minutes 6;room wait 2 worth 1;room wait 7 worth 1;round 1;");
        kit.due("send() to ROOM 0", zero.send(), 2);
        // by MODE 1 none goes out
        LampRounds mode = TestKit.told("house law 0 odds 0 minutes 6;room wait 1 worth 1;room wait 1 worth 1;way 0 1;");
        kit.due("dark(1)", mode.dark(1), -1);
        kit.due("send() of MODE 0", mode.send(), 101);
        // acts don't stand in its way, be there thirty
        LampRounds full = told(5, "");
        act(full, 30);
        kit.due("send() with thirty acts", full.send(), 102);
        kit.due("count(7)", full.count(7), 30);
        kit.promise(52, "if later than now");
        kit.due("send(), two go out together", TestKit.told("house law 0 odds 0 minutes 6;room wait 7 worth 1;room wait 2 worth 1;"
            + "room wait 2 worth 1;").send(), -1);
        kit.due("send(), 2 goes out a MINUTE later", TestKit.told("house law 0 odds 0 minutes 6;room wait 7 worth 1;"
            + "room wait 2 worth 1;room wait 3 worth 1;").send(), 100);
        kit.promise(52, "the first of several.");
        // never, if he comes at any of the MINUTES 0 .. 7
        LampRounds eight = TestKit.told("house law 0 odds 0 minutes 8;room wait 7 worth 1;room wait 7 worth 1;");
        kit.due("send(), each MINUTE is as good", eight.send(), 100);
        kit.due("send(), the last ROOM, at 28 or 29", lastSend().send(), 328);
        kit.promise(52, "NONE: none");
        kit.due("send(), none goes out", TestKit.told("house law 0 odds 0 minutes 7;room wait 7 worth 1;room wait 7 worth 1;").send(), -1);
        kit.due("send() without ROOMS", TestKit.told(EMPTY).send(), -1);
        kit.due("send() of one ROOM", TestKit.told(EMPTY + "room wait 1 worth 1;").send(), -1);
        kit.promise(52, "-2: there is no HOUSE.");
        noHouse("send()", x -> x.send());
    }

    /** By LAW 3 nothing is older until he nods at 28 and 29: the flame of 3, that waits 1, goes out at 29. */
    private static LampRounds lastSend() {
        LampRounds x = TestKit.told("house law 3 odds 0 minutes 30;room wait 7 worth 1;room wait 7 worth 1;room wait 7 worth 1;"
            + "room wait 1 worth 1;way 0 1;way 0 2;way 0 3;");
        x.nods(28);
        x.nods(29);
        return x;
    }

    // ---- promises 53 to 56

    private void visit() {
        kit.promise(53, "A visitor looks in a ROOM at a MINUTE besides: AGE of its flame then (MODE 0).");
        LampRounds x = told(5, "");
        kit.due("visit(1, 2), as late as may be", x.visit(1, 2), 0);
        kit.due("age(0, 1, 2)", x.age(0, 1, 2), 0);
        kit.due("count(7)", x.count(7), 1);
        kit.due("visit(1, 0), the first MINUTE", x.visit(1, 0), 0);
        kit.due("visit(1, 5), the last MINUTE", x.visit(1, 5), 0);
        kit.due("visit(1, 4), between", x.visit(1, 4), 0);
        kit.due("visit(0, 5)", x.visit(0, 5), 0);
        kit.due("visit(1, 3) of one that is out", told(5, "").visit(1, 3), 99);
        // by MODE 1 it would not be
        LampRounds mode = TestKit.told("house law 0 odds 5 minutes 6;room wait 7 worth 1;room wait 2 worth 1;way 0 1;");
        kit.due("age(1, 1, 5)", mode.age(1, 1, 5) < 99 ? 1 : 0, 1);
        kit.due("visit(1, 5), MODE 0", mode.visit(1, 5), 99);
        LampRounds half = TestKit.told("house law 1 odds 5 minutes 8;room wait 7 worth 1;room wait 7 worth 1;");
        kit.due("visit(1, 7) by LAW 1", half.visit(1, 7), 3);
        kit.due("visit(1, 0) by LAW 1", half.visit(1, 0), 0);
        kit.promise(53, "-5: there were 30 acts");
        x = told(5, "");
        act(x, 29);
        kit.due("visit, the 30th", x.visit(0, 0), 0);
        kit.due("count(7)", x.count(7), 30);
        LampRounds full = x;
        kit.refused(full, "visit(1, 2), a 31st", () -> full.visit(1, 2), -5);
        kit.due("undo()", full.undo(), 29);
        kit.due("visit(1, 2), a 30th again", full.visit(1, 2), 0);
        LampRounds nodded = told(5, "");
        for (int i = 0; i < 30; i++) {
            nodded.nods(i % 6);
        }
        kit.due("visit behind thirty nods", nodded.visit(0, 0), -5);
        kit.promise(53, "-2: there are none such.");
        LampRounds y = told(5, "");
        for (int room : NO_ROOMS_OF_TWO) {
            kit.due("visit(" + room + ", 0)", y.visit(room, 0), -2);
        }
        for (int minute : NO_MINUTES_OF_SIX) {
            kit.due("visit(0, " + minute + ")", y.visit(0, minute), -2);
        }
        kit.due("count(7)", y.count(7), 0);
        kit.refused(y, "visit(2, 0)", () -> y.visit(2, 0), -2);
        kit.refused(y, "visit(0, 6)", () -> y.visit(0, 6), -2);
        kit.due("visit(0, 0) without ROOMS", TestKit.told(EMPTY).visit(0, 0), -2);
        noHouse("visit(0, 0)", z -> z.visit(0, 0));
    }

    private void nods() {
        kit.promise(54, "The warden does not look at a MINUTE (III): ROOMS whose flames burn at its end then (MODE 0), as bits.");
        LampRounds x = TestKit.told("house law 0 odds 5 minutes 6;room wait 1 worth 1;room wait 5 worth 1;");
        kit.due("nods(0), the first MINUTE", x.nods(0), 3);
        kit.due("nods(1)", x.nods(1), 2);
        kit.due("nods(5), the last MINUTE", x.nods(5), 0);
        kit.due("nods(0) again: at its end", x.nods(0), 3);
        kit.due("count(7)", x.count(7), 4);
        LampRounds mode = TestKit.told("house law 0 odds 5 minutes 6;room wait 7 worth 1;room wait 2 worth 1;way 0 1;");
        kit.due("burns(1, 5)", mode.burns(1, 5), 3);
        kit.due("nods(5), MODE 0", mode.nods(5), 1);
        LampRounds empty = TestKit.told(EMPTY);
        kit.due("nods(5) without ROOMS", empty.nods(5), 0);
        kit.due("count(7) without ROOMS", empty.count(7), 1);
        kit.promise(54, "-5, -2 likewise.");
        LampRounds full = told(5, "");
        act(full, 29);
        kit.due("nods(0), the 30th", full.nods(0), 3);
        kit.due("count(7)", full.count(7), 30);
        kit.refused(full, "nods(1), a 31st", () -> full.nods(1), -5);
        full.undo();
        kit.due("nods(1), a 30th again", full.nods(1), 3);
        LampRounds y = told(5, "");
        for (int minute : NO_MINUTES_OF_SIX) {
            kit.due("nods(" + minute + ")", y.nods(minute), -2);
            kit.due("nods(" + minute + ") without ROOMS", TestKit.told(EMPTY).nods(minute), -2);
        }
        kit.refused(y, "nods(6)", () -> y.nods(6), -2);
        kit.refused(y, "nods(-1)", () -> y.nods(-1), -2);
        noHouse("nods(0)", z -> z.nods(0));
    }

    private void undo() {
        kit.promise(55, "The latest act is taken back: how many there are.");
        LampRounds x = told(5, "");
        act(x, 30);
        for (int n = 29; n >= 0; n--) {
            kit.due("undo() of " + (n + 1), x.undo(), n);
            kit.due("count(7)", x.count(7), n);
        }
        x = told(5, "");
        x.visit(1, 2);
        x.visit(1, 5);
        kit.due("dark(0) of both", x.dark(0), -1);
        x.undo();
        kit.due("dark(0) without the latest", x.dark(0), 5);
        x.undo();
        kit.due("dark(0) without both", x.dark(0), 2);
        kit.promise(55, "-5: there is none");
        LampRounds none = x;
        kit.refused(none, "undo()", () -> none.undo(), -5);
        kit.due("undo() of a new HOUSE", told(5, "").undo(), -5);
        kit.due("undo() without ROOMS", TestKit.told(EMPTY).undo(), -5);
        none.visit(1, 2);
        none.anew();
        kit.due("undo() behind anew()", none.undo(), -5);
        kit.promise(55, "-2: there is no HOUSE.");
        noHouse("undo()", y -> y.undo());
    }

    private void anew() {
        kit.promise(56, "All are: how many there were.");
        LampRounds x = told(5, "");
        kit.due("anew() of none", x.anew(), 0);
        x.visit(1, 2);
        kit.due("anew() of one", x.anew(), 1);
        kit.due("dark(0)", x.dark(0), 2);
        act(x, 30);
        kit.due("anew() of thirty", x.anew(), 30);
        kit.due("count(7)", x.count(7), 0);
        kit.due("anew() again", x.anew(), 0);
        kit.due("visit then", x.visit(1, 2), 0);
        kit.due("count(7)", x.count(7), 1);
        kit.due("anew() without ROOMS", TestKit.told(EMPTY).anew(), 0);
        kit.promise(56, "-2 likewise.");
        noHouse("anew()", y -> y.anew());
    }

    // ---- promises 57, 58

    private static final int[] NO_SEEDS = {-1, 2000000001, Integer.MIN_VALUE, Integer.MAX_VALUE};

    private void drawn() {
        kit.promise(57, "A night drawn (IX) from a seed (0 .. 2,000,000,000), what 0: visitors told who come, as bits");
        String five = "visitor in 1 at 2;visitor in 1 at 5;visitor in 0 at 3;visitor in 1 at 29;visitor in 1 at 5;";
        kit.due("drawn(0, 0)", told(8, five).drawn(0, 0), 9);
        kit.due("drawn(2000000000, 0)", told(5, five).drawn(2000000000, 0), comers(2000000000L, 5, 5));
        kit.due("drawn(0, 0), all five", told(10, five).drawn(0, 0), 31);
        LampRounds acted = told(0, five);
        acted.visit(1, 2);
        kit.due("drawn(0, 0), visits of acts are not told", acted.drawn(0, 0), 0);
        kit.promise(57, "1: dark() of MODE 0 (NONE: at none)");
        kit.due("drawn(0, 1), none comes", told(0, five).drawn(0, 1), 2);
        kit.due("drawn(0, 1), the first comes", told(1, five).drawn(0, 1), 5);
        kit.due("drawn(0, 1), all come", told(10, five).drawn(0, 1), -1);
        kit.due("drawn(2000000000, 1), all come", told(10, five).drawn(2000000000, 1), -1);
        kit.due("drawn(0, 1) without ROOMS", TestKit.told(EMPTY).drawn(0, 1), -1);
        kit.due("drawn(0, 0) without ROOMS", TestKit.told(EMPTY).drawn(0, 0), 0);
        kit.promise(57, "-2: there are none such");
        for (int seed : NO_SEEDS) {
            kit.due("drawn(" + seed + ", 0)", told(5, five).drawn(seed, 0), -2);
            kit.due("drawn(" + seed + ", 1)", told(5, five).drawn(seed, 1), -2);
        }
        for (int what : NO_CHOICE) {
            kit.due("drawn(0, " + what + ")", told(5, five).drawn(0, what), -2);
        }
        kit.promise(57, "no HOUSE.");
        noHouse("drawn(0, 0)", x -> x.drawn(0, 0));
        noHouse("drawn(2000000000, 1)", x -> x.drawn(2000000000, 1));
    }

    private void luck() {
        kit.promise(58, "Of n (1 .. 20) such from seeds, the seed and 1, .., in how many a flame goes out.");
        String one = "visitor in 1 at 2;visitor in 1 at 5;";
        int[] seeds = {0, 1999999999, 2000000000};
        for (int seed : seeds) {
            int dying = 0;
            for (int n = 1; n <= 20; n++) {
                // it lasts if both come
                dying += comers((long) seed + n - 1, 7, 2) == 3 ? 0 : 1;
                if (n <= 2 || n >= 19) {
                    kit.due("luck(" + seed + ", " + n + ", 1)", told(7, one).luck(seed, n, 1), dying);
                }
            }
        }
        kit.due("luck(0, 20, 1), always", told(0, one).luck(0, 20, 1), 20);
        kit.due("luck(0, 20, 1), never", told(10, one).luck(0, 20, 1), 0);
        kit.due("luck(0, 20, 0), never", told(0, one).luck(0, 20, 0), 0);
        kit.promise(58, "-2: there are none such.");
        LampRounds x = told(5, one);
        int[] none = {0, -1, 21, Integer.MIN_VALUE, Integer.MAX_VALUE};
        for (int n : none) {
            kit.due("luck(0, " + n + ", 0)", x.luck(0, n, 0), -2);
        }
        for (int seed : NO_SEEDS) {
            kit.due("luck(" + seed + ", 1, 0)", x.luck(seed, 1, 0), -2);
        }
        for (int room : NO_ROOMS_OF_TWO) {
            kit.due("luck(0, 1, " + room + ")", x.luck(0, 1, room), -2);
        }
        kit.due("luck(0, 1, 0) without ROOMS", TestKit.told(EMPTY).luck(0, 1, 0), -2);
        noHouse("luck(0, 1, 0)", y -> y.luck(0, 1, 0));
    }
}
