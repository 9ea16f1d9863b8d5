import java.util.function.ToIntFunction;

/** Boundary cases of Terms IV to VI, and of promises 25 to 40. */
final class KeepEdges {
    private static final String ALL_WAYS = "way 0 1;way 0 2;way 0 3;way 1 2;way 1 3;way 2 3;";
    private static final String EMPTY = "house law 0 odds 5 minutes 8;";

    private final EdgeKit kit;

    private KeepEdges(EdgeKit kit) {
        this.kit = kit;
    }

    static void run(EdgeKit kit) {
        KeepEdges edges = new KeepEdges(kit);
        edges.asideAndAsHeLikes();
        edges.everyState();
        edges.keeps();
        edges.states();
        edges.next();
        edges.longest();
        edges.whatIsARing();
        edges.ring();
        edges.ringed();
        edges.rings();
        edges.isRing();
        edges.mostAndSaved();
        edges.given();
        edges.longer();
        edges.density();
        edges.even();
        edges.shares();
        edges.second();
    }

    // ---- what these tests share

    /** A HOUSE of a LAW, a ROOM of each wait, and more LINES. */
    private static LampRounds told(int law, String waits, String more) {
        StringBuilder text = new StringBuilder("house law " + law + " odds 5 minutes 8;");
        for (String wait : waits.split(" ")) {
            text.append("room wait ").append(wait).append(" worth 1;");
        }
        return TestKit.told(text + more);
    }

    private void noHouse(String call, ToIntFunction<LampRounds> ask) {
        kit.due(call + " of a new object", ask.applyAsInt(new LampRounds()), -2);
        LampRounds x = told(0, "1 1", "way 0 1;round 0 1;");
        kit.due(call + " with a HOUSE", ask.applyAsInt(x) == -2 ? 1 : 0, 0);
        x.house();
        kit.due(call + ", the HOUSE gone", ask.applyAsInt(x), -2);
    }

    // ---- IV

    private void asideAndAsHeLikes() {
        kit.term("IV", "KEEP: visitors, acts aside");
        LampRounds x = told(0, "1 1", "visitor in 1 at 1;visitor in 1 at 2;visitor in 1 at 4;visitor in 1 at 6;");
        kit.due("out(0, 1)", x.out(0, 1), -1);
        kit.due("keeps(2) with visitors", x.keeps(2), 0);
        kit.due("longest() with visitors", x.longest(), 1);
        x = told(0, "1 1", "");
        for (int t = 0; t < 8; t++) {
            x.visit(1, t);
            x.nods(t);
        }
        kit.due("keeps(2) with visits", x.keeps(2), 0);
        kit.due("keeps(1) with nods", x.keeps(1), 1);
        kit.due("longest() with both", x.longest(), 1);
        kit.term("IV", "the warden begins as by III, and goes (or stays) as he likes, one WAY a minute.");
        for (int r = 0; r < 4; r++) {
            x = told(0, "7 7 7 7", "round " + r + " 0;");
            for (int s = 0; s < 4; s++) {
                kit.due("keeps(" + (1 << s) + ") from " + r, x.keeps(1 << s), r == s ? 1 : 0);
            }
        }
        x = told(0, "7 7 7 7", "");
        kit.due("keeps(1) without a ROUND", x.keeps(1), 1);
        kit.due("keeps(8) without a ROUND", x.keeps(8), 0);
        // not by the ROUND, and staying too
        kit.due("keeps(3), the ROUND is of no matter", told(0, "2 1", "way 0 1;round 0 0 0 0;").keeps(3), 1);
        kit.due("keeps(2) by staying", told(0, "7 1", "way 0 1;round 1 0;").keeps(2), 1);
        // two ways off: AGE 2 when he comes, in time or not
        kit.due("keeps(4), two ways off", told(0, "7 7 2", "way 0 1;way 1 2;").keeps(4), 1);
        kit.due("keeps(4), one short", told(0, "7 7 1", "way 0 1;way 1 2;").keeps(4), 0);
        kit.due("keeps(8), three ways off", told(0, "7 7 7 3", "way 0 1;way 1 2;way 2 3;").keeps(8), 1);
        kit.due("keeps(8), one short", told(0, "7 7 7 2", "way 0 1;way 1 2;way 2 3;").keeps(8), 0);
    }

    private void everyState() {
        kit.term("IV", "STATES: his ROOM and AGES at the end of a MINUTE, any of all ROOMS, and for each flame any AGE 0 .. its wait.");
        for (int law = 0; law < 4; law++) {
            for (int wait = 1; wait <= 7; wait++) {
                kit.due("states() of one ROOM, wait " + wait, told(law, "" + wait, "").states(), wait + 1);
            }
        }
        // by LAW 3 nothing is ever older: all STATES there can be
        kit.due("states() of two", told(3, "1 7", "way 0 1;").states(), 2 * 2 * 8);
        kit.due("states() of three", told(3, "1 2 3", "way 0 1;way 0 2;way 1 2;").states(), 3 * 2 * 3 * 4);
        kit.due("states() of four, the most", told(3, "7 7 7 7", ALL_WAYS).states(), 4 * 8 * 8 * 8 * 8);
        // from 0, AGES 1 1: whichever he leaves goes out
        kit.due("states() of 1 1", told(0, "1 1", "way 0 1;").states(), 6);
        // the STATE's ROOM counts though the ROUND begins elsewhere
        kit.due("states() of 1 1, another beginning", told(0, "1 1", "way 0 1;round 1;").states(), 6);
    }

    // ---- promises 25 to 28

    private void keeps() {
        kit.promise(25, "KEEP (IV): 1 if the warden can keep all flames of a set of ROOMS (bits) for ever, from MINUTE 0 on, else 0.");
        LampRounds x = told(0, "1 1 1 1", "way 0 1;");
        int[] kept = {1, 1, 1, 1};
        for (int set = 0; set < 16; set++) {
            kit.due("keeps(" + set + ")", x.keeps(set), set < 4 ? kept[set] : 0);
        }
        kit.due("keeps(15), all of four", told(3, "1 1 1 1", ALL_WAYS).keeps(15), 1);
        kit.due("keeps(0), none", told(0, "1 1 1", "").keeps(0), 1);
        kit.due("keeps(0) without ROOMS", TestKit.told(EMPTY).keeps(0), 1);
        // three on a ring of ways: 2 is enough, 1 is not
        kit.due("keeps(7) of 2 2 2", told(0, "2 2 2", "way 0 1;way 1 2;way 0 2;").keeps(7), 1);
        kit.due("keeps(7) of 2 1 2", told(0, "2 1 2", "way 0 1;way 1 2;way 0 2;").keeps(7), 0);
        kit.promise(25, "-2: there is no such set");
        kit.due("keeps(16) of four", x.keeps(16), -2);
        kit.due("keeps(-1) of four", x.keeps(-1), -2);
        kit.due("keeps(min)", x.keeps(Integer.MIN_VALUE), -2);
        kit.due("keeps(max)", x.keeps(Integer.MAX_VALUE), -2);
        kit.due("keeps(1) of one", told(0, "1", "").keeps(1), 1);
        kit.due("keeps(2) of one", told(0, "1", "").keeps(2), -2);
        kit.due("keeps(8) of three", told(0, "1 1 1", "").keeps(8), -2);
        kit.due("keeps(1) without ROOMS", TestKit.told(EMPTY).keeps(1), -2);
        kit.due("keeps(-1) without ROOMS", TestKit.told(EMPTY).keeps(-1), -2);
        kit.promise(25, "no HOUSE");
        noHouse("keeps(0)", y -> y.keeps(0));
    }

    private void states() {
        kit.promise(26, "From how many STATES (IV) all flames can be kept for ever");
        kit.due("states() of two apart", told(0, "7 7", "").states(), 0);
        kit.due("states() of one", told(0, "7", "").states(), 8);
        // where he is matters: by trying all there is
        kit.due("states() of 3 1 3 in a line", told(0, "3 1 3", "way 0 1;way 1 2;").states(), 14 + 17 + 14);
        kit.due("states() of 1 3 3 in a line", told(0, "1 3 3", "way 0 1;way 0 2;").states(), 17 + 14 + 14);
        kit.due("states() of 3 2 by LAW 2", told(2, "3 2", "way 0 1;").states(), 20);
        kit.promise(26, "(without ROOMS 0)");
        kit.due("states() without ROOMS", TestKit.told(EMPTY).states(), 0);
        kit.promise(26, "-2: there is no HOUSE.");
        noHouse("states()", x -> x.states());
    }

    private void next() {
        kit.promise(27, "The first ROOM to which he can go (or stay) from MINUTE 0 to 1 so that he can keep all for ever.");
        kit.due("next() of 1 1", told(0, "1 1", "way 0 1;").next(), 1);
        kit.due("next() of 2 1: he must", told(0, "2 1", "way 0 1;").next(), 1);
        kit.due("next() of 1 2: he may stay", told(0, "1 2", "way 0 1;").next(), 0);
        kit.due("next() of 7 7 from 1, the first", told(0, "7 7", "way 0 1;round 1;").next(), 0);
        kit.due("next() of one", told(0, "1", "").next(), 0);
        kit.due("next() by LAW 3, the last ROOM", told(3, "1 1 1 1", "way 3 0;way 3 1;way 3 2;round 0;").next(), 3);
        kit.promise(27, "NONE: to none");
        kit.due("next() of two apart", told(0, "7 7", "").next(), -1);
        kit.due("next() of three", told(0, "1 1 1", "way 0 1;way 1 2;way 0 2;").next(), -1);
        kit.due("next() without ROOMS", TestKit.told(EMPTY).next(), -1);
        kit.promise(27, "-2 likewise.");
        noHouse("next()", x -> x.next());
    }

    private void longest() {
        kit.promise(28, "The longest that all can burn, from MINUTE 0 on: how many MINUTES");
        for (int wait = 1; wait <= 7; wait++) {
            kit.due("longest() of 7 apart from " + wait, told(0, "7 " + wait, "").longest(), wait);
        }
        // from 1 he has a minute more: 1 0 1, then 2 1 0
        kit.due("longest() from 1", told(0, "2 1 1", "way 0 1;way 1 2;way 0 2;round 1;").longest(), 2);
        kit.due("longest() from 0", told(0, "2 1 1", "way 0 1;way 1 2;way 0 2;").longest(), 1);
        // the longest that ends at all, by trying all there is
        kit.due("longest() that ends", told(1, "7 7 5 4", ALL_WAYS).longest(), 48);
        kit.promise(28, "(100 at most)");
        kit.due("longest() of one", told(0, "1", "").longest(), 100);
        kit.due("longest() of 1 1", told(0, "1 1", "way 0 1;").longest(), 100);
        kit.due("longest() without ROOMS", TestKit.told(EMPTY).longest(), 100);
        kit.promise(28, "-2 likewise.");
        noHouse("longest()", x -> x.longest());
    }

    // ---- V, promises 29 to 32

    private void isRing(String row, int law, String waits, String ways, int want) {
        kit.due("isRing() of " + row + ", waits " + waits, told(law, waits, ways + "round " + row + ";").isRing(), want);
    }

    private void whatIsARing() {
        kit.term("V", "A row of ROOMS is a RING, if he can go from each to the next one (or stay)");
        isRing("0 1 2 1", 0, "7 7 7", "way 0 1;way 1 2;", 1);
        isRing("0 2 1 1", 0, "7 7 7", "way 0 1;way 1 2;", 0);
        isRing("0 0 1 1 2 2 1", 0, "7 7 7", "way 0 1;way 1 2;", 1);
        isRing("0", 0, "1", "", 1);
        isRing("2 1 0 1", 0, "7 7 7", "way 0 1;way 1 2;", 1);
        kit.term("V", "and from the last to the first");
        isRing("1 0 1 2", 0, "7 7 7", "way 0 1;way 1 2;", 1);
        isRing("2 1 0", 0, "7 7 7", "way 0 1;way 1 2;", 0);
        isRing("0 1 2", 0, "7 7 7", "way 0 1;way 1 2;", 0);
        isRing("0 1 2", 0, "7 7 7", "way 0 1;way 1 2;way 2 0;", 1);
        isRing("1 2 0", 0, "7 7 7", "way 0 1;way 1 2;", 0);
        kit.term("V", "going so again and again, from AGES 0 on, beginning at its first ROOM, no flame ever goes out.");
        // from the end of one time to the next 0 waits for 2 MINUTES
        isRing("1 0 1", 0, "2 1", "way 0 1;", 1);
        isRing("1 0 1", 0, "1 1", "way 0 1;", 0);
        // the second time around 1 waits for 4 MINUTES
        isRing("0 1 0 0 0", 0, "7 4", "way 0 1;", 1);
        isRing("0 1 0 0 0", 0, "7 3", "way 0 1;", 0);
        // by LAW 1 AGES of 1 grow: 4 2, 6 3, 7 3, 7 3, or 5 2, 7 3, 8
        isRing("0 0 0 0 1", 1, "7 7", "way 0 1;", 1);
        isRing("0 0 0 0 1", 1, "7 6", "way 0 1;", 0);
        isRing("0 0 0 0 0 1", 1, "7 7", "way 0 1;", 0);
        // by LAW 2 the last and the first ROOM are two MINUTES together
        isRing("0 1 1 0", 2, "2 2", "way 0 1;", 1);
        isRing("0 1 1 0", 2, "1 2", "way 0 1;", 0);
        isRing("0 1", 2, "7 7", "way 0 1;", 0);
        // by LAW 3 from 1 nothing is older, from 0 the flame of 2 is: sooner or later it goes out
        isRing("1", 3, "1 1 1", "way 0 1;way 1 2;", 1);
        isRing("1 0", 3, "7 7 7", "way 0 1;way 1 2;", 0);
        isRing("1 1 1 1 1 1 1 1 1 1 1 0", 3, "7 7 7", "way 0 1;way 1 2;", 0);
        kit.term("V", "Without ROOMS there is none.");
        LampRounds x = TestKit.told(EMPTY);
        kit.due("ring()", x.ring(), -1);
        kit.due("ringed(0)", x.ringed(0), -1);
        kit.due("rings(1)", x.rings(1), 0);
        kit.due("rings(10)", x.rings(10), 0);
        kit.due("isRing()", x.isRing(), 0);
    }

    private void ring() {
        kit.promise(29, "RINGS (V): the shortest (1 .. 10).");
        kit.due("ring() of 1", told(3, "1 1", "way 0 1;").ring(), 1);
        kit.due("ring() of 2", told(0, "1 1", "way 0 1;").ring(), 2);
        kit.due("ring() of 3", told(0, "2 2 2", "way 0 1;way 0 2;way 1 2;").ring(), 3);
        kit.due("ring() of 4", told(2, "2 2", "way 0 1;").ring(), 4);
        kit.due("ring() of 6", told(2, "4 4 4", "way 0 1;way 0 2;way 1 2;").ring(), 6);
        kit.due("ring() of 8", told(2, "2 6 6", "way 0 1;way 0 2;").ring(), 8);
        kit.due("ring() of 9", told(2, "7 7 7 7", "way 0 1;way 0 2;way 0 3;way 2 3;").ring(), 9);
        // whatever the ROUND and its beginning are
        kit.due("ring() of 2, another beginning", told(0, "1 1", "way 0 1;round 1 1 1;").ring(), 2);
        kit.promise(29, "NONE: there is none");
        kit.due("ring() of two apart", told(0, "7 7", "").ring(), -1);
        // kept for ever, but by no row of ten
        kit.due("keeps(15)", told(1, "7 6 4 7", "way 0 1;way 0 2;way 1 2;way 1 3;way 2 3;").keeps(15), 1);
        kit.due("ring(), none so short", told(1, "7 6 4 7", "way 0 1;way 0 2;way 1 2;way 1 3;way 2 3;").ring(), -1);
        kit.promise(29, "-2: there is no HOUSE.");
        noHouse("ring()", x -> x.ring());
    }

    private void ringed() {
        kit.promise(30, "ROOM i (from 0) of the first such (the least row).");
        int[] row = {0, 0, 1, 1, 0, 2, 2, 3, 3};
        LampRounds nine = told(2, "7 7 7 7", "way 0 1;way 0 2;way 0 3;way 2 3;");
        for (int i = 0; i < 9; i++) {
            kit.due("ringed(" + i + ") of nine", nine.ringed(i), row[i]);
        }
        LampRounds one = told(3, "1 1 1", "way 2 0;way 2 1;");
        kit.due("ringed(0) of one", one.ringed(0), 2);
        kit.due("ringed(0), 0 or 1", told(3, "1 1", "way 0 1;").ringed(0), 0);
        LampRounds three = told(0, "2 2 2", "way 0 1;way 0 2;way 1 2;round 2 1 0;");
        for (int i = 0; i < 3; i++) {
            kit.due("ringed(" + i + ") of 0 1 2 and 0 2 1", three.ringed(i), i);
        }
        kit.due("rings(3), asked between", three.rings(3), 6);
        kit.due("ringed(1) behind it", three.ringed(1), 1);
        kit.promise(30, "NONE: there is no such place");
        kit.due("ringed(9) of nine", nine.ringed(9), -1);
        kit.due("ringed(10) of nine", nine.ringed(10), -1);
        kit.due("ringed(1) of one", one.ringed(1), -1);
        kit.due("ringed(max) of one", one.ringed(Integer.MAX_VALUE), -1);
        kit.promise(30, "no such ring");
        LampRounds apart = told(0, "7 7", "");
        kit.due("ringed(0) of two apart", apart.ringed(0), -1);
        kit.due("ringed(9) of two apart", apart.ringed(9), -1);
        kit.promise(30, "-2: i is below 0");
        kit.due("ringed(-1)", nine.ringed(-1), -2);
        kit.due("ringed(min)", nine.ringed(Integer.MIN_VALUE), -2);
        kit.due("ringed(-1) of two apart", apart.ringed(-1), -2);
        kit.due("ringed(-1) without ROOMS", TestKit.told(EMPTY).ringed(-1), -2);
        kit.promise(30, "there is no HOUSE.");
        noHouse("ringed(0)", x -> x.ringed(0));
        kit.due("ringed(10)", new LampRounds().ringed(10), -2);
        kit.due("ringed(-1)", new LampRounds().ringed(-1), -2);
    }

    private void rings() {
        kit.promise(31, "How many rows of n (1 .. 10) ROOMS are RINGS.");
        LampRounds one = told(0, "1", "");
        LampRounds every = told(3, "1 1 1 1", ALL_WAYS);
        LampRounds two = told(0, "1 1", "way 0 1;");
        for (int n = 1; n <= 10; n++) {
            kit.due("rings(" + n + ") of one", one.rings(n), 1);
            kit.due("rings(" + n + "), all rows", every.rings(n), 1 << 2 * n);
            kit.due("rings(" + n + ") of 1 1", two.rings(n), n % 2 == 0 ? 2 : 0);
        }
        kit.due("rings(10), none", told(0, "7 7", "").rings(10), 0);
        kit.promise(31, "-2: there is no such n");
        int[] none = {0, -1, 11, Integer.MIN_VALUE, Integer.MAX_VALUE};
        for (int n : none) {
            kit.due("rings(" + n + ")", one.rings(n), -2);
            kit.due("rings(" + n + ") without ROOMS", TestKit.told(EMPTY).rings(n), -2);
        }
        kit.promise(31, "no HOUSE.");
        noHouse("rings(1)", x -> x.rings(1));
        noHouse("rings(10)", x -> x.rings(10));
    }

    private void isRing() {
        kit.promise(32, "1 if the ROUND told is a RING (V; also if it is longer than 10), else 0.");
        String line = "way 0 1;way 1 2;";
        isRing("0 1 2 1 0 1 2 2 1 0", 0, "7 7 7", line, 1);
        isRing("0 1 2 1 0 1 2 2 2 1 0", 0, "7 7 7", line, 1);
        isRing("0 1 2 1 0 1 2 2 2 2 1 0", 0, "7 7 7", line, 1);
        // eleven and twelve that leave 0 for eight MINUTES, or seven
        isRing("0 1 2 2 2 2 2 2 1 0 0", 0, "7 7 7", line, 0);
        isRing("0 1 2 2 2 2 2 1 0 0 0", 0, "7 7 7", line, 1);
        isRing("0 1 2 2 2 2 2 2 1 0 0 0", 0, "7 7 7", line, 0);
        isRing("0 1 2 2 2 2 2 1 0 0 0 0", 0, "7 7 7", line, 1);
        // twelve whose last has no way to the first
        isRing("0 0 0 0 0 1 1 1 1 1 1 2", 0, "7 7 7", line, 0);
        kit.due("isRing() without a ROUND", told(0, "1", "").isRing(), 0);
        isRing("0", 0, "7 7", "", 0);
        kit.promise(32, "-2: there is no HOUSE.");
        noHouse("isRing()", x -> x.isRing());
    }

    // ---- promises 33 to 36

    private void mostAndSaved() {
        kit.promise(33, "SAVE: the greatest worth of a set that can be kept for ever.");
        String dear = "room wait 1 worth 99;room wait 1 worth 99;room wait 1 worth 99;room wait 1 worth 99;";
        kit.due("most() of all", TestKit.told("house law 3 odds 0 minutes 8;" + dear + ALL_WAYS).most(), 396);
        kit.due("most() of one of four", TestKit.told("house law 0 odds 0 minutes 8;" + dear).most(), 99);
        kit.due("most() of nothing", TestKit.told(EMPTY + "room wait 1 worth 0;room wait 1 worth 99;").most(), 0);
        kit.due("most() without ROOMS", TestKit.told(EMPTY).most(), 0);
        kit.promise(33, "-2: there is no HOUSE.");
        noHouse("most()", x -> x.most());
        kit.promise(34, "Which, as bits: the least such set.");
        kit.due("saved(), all", TestKit.told("house law 3 odds 0 minutes 8;" + dear + ALL_WAYS).saved(), 15);
        String middle = "room wait 1 worth 5;room wait 1 worth 7;room wait 1 worth 7;way 0 1;way 0 2;";
        LampRounds x = TestKit.told(EMPTY + middle);
        kit.due("saved(), 3 or 5", x.saved(), 3);
        kit.due("rate(2, 8)", x.rate(2, 8), 7);
        kit.due("saved(), 5 is worth more", x.saved(), 5);
        kit.due("most(), 5 is worth more", x.most(), 13);
        x.rate(0, 0);
        kit.due("saved(), what is worth nothing is not in it", x.saved(), 4);
        x.rate(1, 0);
        x.rate(2, 0);
        kit.due("saved(), nothing is worth anything", x.saved(), 0);
        kit.due("saved() without ROOMS", TestKit.told(EMPTY).saved(), 0);
        kit.promise(34, "-2 likewise.");
        noHouse("saved()", y -> y.saved());
    }

    private void given() {
        kit.promise(35, "The least set of fewest ROOMS, as bits, without whose flames all others can be kept.");
        kit.due("given(), none", told(3, "1 1 1 1", ALL_WAYS).given(), 0);
        kit.due("given(), 2 or 4", told(0, "1 1 1", "way 0 1;way 0 2;").given(), 2);
        kit.due("given(), the last", told(0, "1 1 1", "way 0 1;").given(), 4);
        // without 2 he keeps 0 and 1, without 0 and 1 he stays in 2; 2 and another he can't keep
        kit.due("given(), one ahead of two that are less", told(2, "7 7 1", "way 0 1;way 0 2;round 2;").given(), 4);
        kit.due("given(), all but where he begins", told(0, "1 1 1 1", "").given(), 14);
        kit.due("given(), all but where he begins", told(0, "1 1 1 1", "round 3;").given(), 7);
        kit.due("given() without ROOMS", TestKit.told(EMPTY).given(), 0);
        kit.promise(35, "-2 likewise.");
        noHouse("given()", x -> x.given());
    }

    private void longer() {
        kit.promise(36, "How much longer (0 .. 7) a flame must wait, at least");
        kit.due("longer(0), none", told(0, "1 1", "way 0 1;").longer(0), 0);
        kit.due("longer(0), none of 7", told(0, "7", "").longer(0), 0);
        kit.due("longer(1), one", told(2, "2 1", "way 0 1;").longer(1), 1);
        kit.due("longer(2), two", told(0, "1 3 1", "way 0 1;way 0 2;").longer(2), 2);
        kit.due("longer(2), six, the most that can be", told(1, "3 3 1", "way 0 1;way 0 2;").longer(2), 6);
        // 0 1 2 3 again and again: each must wait 3, whichever ROOM it is
        String[] three = {"1 3 3 3", "3 1 3 3", "3 3 1 3", "3 3 3 1"};
        for (int r = 0; r < 4; r++) {
            LampRounds x = told(0, three[r], ALL_WAYS);
            for (int s = 0; s < 4; s++) {
                kit.due("longer(" + s + ") of " + three[r], x.longer(s), r == s ? 2 : -1);
            }
        }
        kit.due("longer(3) of 3 3 7 1, by trying all there is", told(0, "3 3 7 1", ALL_WAYS).longer(3), 2);
        kit.promise(36, "(its wait no more than 7)");
        kit.due("longer(2), five", told(1, "3 3 2", "way 0 1;way 0 2;").longer(2), 5);
        kit.due("longer(2), one to be 7", told(1, "3 3 6", "way 0 1;way 0 2;").longer(2), 1);
        kit.due("longer(2) at 7", told(1, "3 3 7", "way 0 1;way 0 2;").longer(2), 0);
        kit.promise(36, "so that all can be kept for ever.");
        LampRounds x = told(2, "2 1", "way 0 1;");
        // 0 1, 1 1, 2 0, 2 1, and then none
        kit.due("longest() ahead of it", x.longest(), 4);
        kit.due("longer(1)", x.longer(1), 1);
        kit.due("longest() as it is", x.longest(), 4);
        kit.due("longer(1) again", x.longer(1), 1);
        kit.due("next() as it is", x.next(), -1);
        kit.due("states() as it is", x.states(), 0);
        kit.due("keeps(3) as it is", x.keeps(3), 0);
        kit.due("the wait told stays", x.room(1, 0), 1);
        kit.promise(36, "NONE: by none");
        kit.due("longer(1) of two apart", told(0, "7 1", "").longer(1), -1);
        kit.due("longer(1) of two apart at 7", told(0, "1 7", "").longer(1), -1);
        kit.due("longer(1), another is too short", told(0, "1 1 1", "way 0 1;way 0 2;").longer(1), -1);
        kit.due("longer(0) of the other", told(2, "2 1", "way 0 1;").longer(0), -1);
        kit.promise(36, "-2: there is none such.");
        int[] none = {-1, 2, 4, Integer.MIN_VALUE, Integer.MAX_VALUE};
        for (int room : none) {
            kit.due("longer(" + room + ")", x.longer(room), -2);
        }
        kit.due("longer(4) of four", told(0, "1 1 1 1", "").longer(4), -2);
        kit.due("longer(3) of four", told(0, "1 1 1 1", "").longer(3), -1);
        kit.due("longer(0) without ROOMS", TestKit.told(EMPTY).longer(0), -2);
        noHouse("longer(0)", y -> y.longer(0));
    }

    // ---- promises 37 to 40

    private void density(String waits, int above, int below) {
        LampRounds x = told(0, waits, "");
        kit.due("density(0) of " + waits, x.density(0), above);
        kit.due("density(1) of " + waits, x.density(1), below);
    }

    private void density() {
        kit.promise(37, "DENSITY: of all flames 1 by wait and 1, together, above (what 0), below (1).");
        for (int wait = 1; wait <= 7; wait++) {
            density("" + wait, 1, wait + 1);
        }
        density("1 1", 1, 1);
        density("1 1 1 1", 2, 1);
        density("7 7 7 7", 1, 2);
        density("4 5 6 7", 533, 840);
        density("1 2 3 4", 77, 60);
        kit.due("density(0) without ROOMS", TestKit.told(EMPTY).density(0), 0);
        kit.due("density(1) without ROOMS", TestKit.told(EMPTY).density(1), 1);
        kit.promise(37, "-2: there is no such what");
        int[] none = {-1, 2, Integer.MIN_VALUE, Integer.MAX_VALUE};
        for (int what : none) {
            kit.due("density(" + what + ")", told(0, "1", "").density(what), -2);
        }
        kit.promise(37, "no HOUSE.");
        noHouse("density(0)", x -> x.density(0));
        noHouse("density(1)", x -> x.density(1));
    }

    private void even() {
        kit.promise(38, "1 if, of each two waits and 1, one divides the other, else 0.");
        String[] even = {"1", "7", "1 1", "7 7 7 7", "1 3 7 7", "7 3 1 1", "2 5 5 2", "1 5", "5 1", "6 6"};
        for (String waits : even) {
            kit.due("even() of " + waits, told(0, waits, "").even(), 1);
        }
        // each pair of four alone
        String[] odd = {"3 5 1 1", "3 1 5 1", "3 1 1 5", "1 3 5 1", "1 3 1 5", "1 1 3 5", "1 2", "6 7", "3 5"};
        for (String waits : odd) {
            kit.due("even() of " + waits, told(0, waits, "").even(), 0);
        }
        kit.due("even() without ROOMS", TestKit.told(EMPTY).even(), 1);
        kit.promise(38, "-2: there is no HOUSE.");
        noHouse("even()", x -> x.even());
    }

    private void shares() {
        kit.term("VI", "Each warden keeps those alone of his set (of others it doesn't matter), as if he were the only one.");
        LampRounds line = told(0, "1 1 1", "way 0 1;way 1 2;");
        kit.due("keeps(7)", line.keeps(7), 0);
        kit.due("shares(1), 0 and 1 2", line.shares(1), 1);
        kit.due("shares(2), 0 and 1 2", line.shares(2), 1);
        kit.promise(39, "SHARES (VI): the least set of ROOMS, as bits, that the warden can keep for ever, "
            + "while another one, in a ROOM from MINUTE 0 on, keeps all others for ever.");
        kit.due("shares(1), the empty set", told(0, "1 1", "way 0 1;").shares(1), 0);
        kit.due("shares(3), all but one", told(3, "1 1 1 1", "way 0 1;way 0 2;").shares(3), 7);
        kit.due("shares(0), the greater half", told(0, "1 1 1 1", "way 0 1;way 2 3;round 2;").shares(0), 12);
        kit.due("shares(0) of one", told(0, "1", "").shares(0), 0);
        kit.promise(39, "NONE: there is none");
        kit.due("shares(0), both in 0", line.shares(0), -1);
        kit.due("shares(0) of two apart", told(0, "1 1", "").shares(0), -1);
        kit.due("shares(1) of two apart", told(0, "1 1", "").shares(1), 1);
        kit.promise(39, "-2: there is none such.");
        int[] none = {-1, 3, 4, Integer.MIN_VALUE, Integer.MAX_VALUE};
        for (int room : none) {
            kit.due("shares(" + room + ")", line.shares(room), -2);
        }
        kit.due("shares(4) of four", told(0, "1 1 1 1", "").shares(4), -2);
        kit.due("shares(3) of four", told(0, "1 1 1 1", "").shares(3), -1);
        kit.due("shares(0) without ROOMS", TestKit.told(EMPTY).shares(0), -2);
        noHouse("shares(0)", x -> x.shares(0));
    }

    private void second() {
        kit.promise(40, "The first ROOM for another one such that there is such a set.");
        kit.due("second() of 1 1", told(0, "1 1", "way 0 1;").second(), 0);
        kit.due("second() of a line", told(0, "1 1 1", "way 0 1;way 1 2;").second(), 1);
        kit.due("second() of two apart", told(0, "1 1", "").second(), 1);
        kit.due("second() of two apart, he in 1", told(0, "1 1", "round 1;").second(), 0);
        kit.due("second(), the last ROOM", told(3, "1 1 1 1", "way 0 1;way 0 2;").second(), 3);
        kit.promise(40, "NONE: none");
        kit.due("second() of three apart", told(0, "7 7 7", "").second(), -1);
        kit.due("second() without ROOMS", TestKit.told(EMPTY).second(), -1);
        kit.promise(40, "-2: there is no HOUSE.");
        noHouse("second()", x -> x.second());
    }
}
