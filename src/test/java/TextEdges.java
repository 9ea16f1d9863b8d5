/** Boundary cases of Terms I with its text block, and of promises 1 to 9. */
final class TextEdges {
    private static final String HEAD = "house law 0 odds 0 minutes 8;";
    private static final String ROOM = "room wait 1 worth 1;";
    private static final String TWO = HEAD + ROOM + ROOM;
    private static final String FULL = HEAD + ROOM + ROOM + ROOM + ROOM + "way 0 1;way 1 2;way 2 3;way 0 2;way 0 3;way 1 3;"
        + "visitor in 0 at 0;visitor in 1 at 1;visitor in 2 at 2;visitor in 3 at 3;visitor in 0 at 29;"
        + "round 0 1 2 3 0 1 2 3 0 1 2 3;";

    private final EdgeKit kit;

    private TextEdges(EdgeKit kit) {
        this.kit = kit;
    }

    static void run(EdgeKit kit) {
        TextEdges edges = new TextEdges(kit);
        edges.newObject();
        edges.feed();
        edges.end();
        edges.house();
        edges.fullTape();
        edges.fault();
        edges.linesOfTheHouse();
        edges.eachToken();
        edges.misspelt();
        edges.numbers();
        edges.roomsToldAhead();
        edges.numbered();
        edges.tokens();
        edges.placesOfFaults();
        edges.tooMany();
        edges.room();
        edges.doors();
        edges.far();
        edges.round();
    }

    // ---- what these tests share

    private void fine(String text, int lines) {
        LampRounds x = new LampRounds();
        kit.due("house() of " + shown(text), TestKit.tell(x, text), lines);
        kit.due("fault(0) of " + shown(text), x.fault(0), 0);
        kit.due("fault(1) of " + shown(text), x.fault(1), -1);
        kit.due("count(8) of " + shown(text), x.count(8), lines);
    }

    /** The FAULT is due at the place of the sign '@', which is taken out of the text. */
    private void faulty(int fault, String marked) {
        int place = marked.indexOf('@');
        String text = marked.substring(0, place) + marked.substring(place + 1);
        LampRounds x = new LampRounds();
        kit.due("house() of " + shown(text), TestKit.tell(x, text), -4);
        kit.due("fault(0) of " + shown(text), x.fault(0), fault);
        kit.due("fault(1) of " + shown(text), x.fault(1), place);
        kit.due("count(8) of " + shown(text), x.count(8), 0);
    }

    private static String shown(String text) {
        return text.length() > 90 ? ".." + text.substring(text.length() - 88).replace('\n', '/') : text.replace('\n', '/');
    }

    private static LampRounds blanks(int n) {
        LampRounds x = new LampRounds();
        TestKit.write(x, " ".repeat(n));
        return x;
    }

    private static int feedSign(LampRounds x, char sign) {
        int four = sign * 0x01010101;
        return x.feed(four, four, four, four, four);
    }

    // ---- promises 1 to 5

    private void newObject() {
        kit.promise(1, "No HOUSE.");
        LampRounds x = new LampRounds();
        for (int what = 0; what <= 10; what++) {
            kit.due("count(" + what + ")", x.count(what), 0);
        }
        kit.due("dark(0)", x.dark(0), -2);
        kit.due("room(0, 0)", x.room(0, 0), -2);
        kit.due("at(0, 0)", x.at(0, 0), -2);
        kit.due("states()", x.states(), -2);
        kit.due("undo()", x.undo(), -2);
        for (int slot = 0; slot < 4; slot++) {
            kit.due("write(" + slot + ", 0, 0)", x.write(slot, 0, 0), -6);
        }
        for (int k = 0; k < 3; k++) {
            kit.due("back(" + k + ")", x.back(k), -6);
        }
        kit.due("NONE", LampRounds.NONE, -1);
    }

    private void feed() {
        kit.promise(2, "Twenty bytes come behind the TAPE, four of each number, the highest first: how many it has");
        for (int place = 0; place < 20; place++) {
            int[] words = {0x20202020, 0x20202020, 0x20202020, 0x20202020, 0x20202020};
            words[place / 4] ^= (' ' ^ '$') << 24 - 8 * (place % 4);
            LampRounds x = new LampRounds();
            kit.due("feed", x.feed(words[0], words[1], words[2], words[3], words[4]), 20);
            kit.due("house()", x.house(), -4);
            kit.due("the one byte that is no blank", x.fault(1), place);
        }
        LampRounds x = new LampRounds();
        for (int i = 1; i <= 25; i++) {
            kit.due("feed #" + i, feedSign(x, ' '), 20 * i);
        }
        x = blanks(7);
        kit.due("feed behind 7", feedSign(x, '$'), 27);
        x.house();
        kit.due("the first of those fed", x.fault(1), 7);
        x = new LampRounds();
        kit.due("feed of bytes above 127", x.feed(-1, -1, -1, -1, Integer.MIN_VALUE), 20);
        kit.due("house()", x.house(), -4);
        kit.due("place", x.fault(1), 0);

        kit.promise(2, "NONE, and none come, if it would have more than 500");
        for (int size = 481; size <= 500; size++) {
            x = blanks(size);
            kit.due("feed at " + size, feedSign(x, '$'), -1);
            kit.due("count(9) at " + size, x.count(9), size);
            kit.due("house() at " + size, x.house(), 0);
            kit.due("fault(0) at " + size, x.fault(0), 0);
        }
        x = blanks(480);
        kit.due("feed at 480", feedSign(x, '$'), 500);
        x.house();
        kit.due("the first of those fed", x.fault(1), 480);
    }

    private void end() {
        kit.promise(3, "The TAPE has its first n bytes alone: n");
        LampRounds x = new LampRounds();
        kit.due("end(0) of none", x.end(0), 0);
        TestKit.write(x, HEAD + "$$$");
        kit.due("end(29)", x.end(29), 29);
        kit.due("count(9)", x.count(9), 29);
        kit.due("end(29), all of them", x.end(29), 29);
        kit.due("house()", x.house(), 1);
        x = blanks(500);
        kit.due("end(500)", x.end(500), 500);
        kit.due("end(499)", x.end(499), 499);
        kit.due("end(1)", x.end(1), 1);
        kit.due("end(0)", x.end(0), 0);
        kit.due("count(9)", x.count(9), 0);

        kit.promise(3, "NONE, and nothing happens, if it has not so many");
        x = new LampRounds();
        kit.due("end(1) of none", x.end(1), -1);
        TestKit.write(x, HEAD + "$");
        kit.due("end(31)", x.end(31), -1);
        kit.due("end(500)", x.end(500), -1);
        kit.due("end(max)", x.end(Integer.MAX_VALUE), -1);
        kit.due("count(9)", x.count(9), 30);
        kit.due("end(29)", x.end(29), 29);
        kit.due("end(30), cut away", x.end(30), -1);
        kit.due("house(), the bytes as they were", x.house(), 1);
        x = blanks(500);
        kit.due("end(501)", x.end(501), -1);
        kit.due("count(9)", x.count(9), 500);

        kit.promise(3, "or n is below 0");
        x = blanks(20);
        kit.due("end(-1)", x.end(-1), -1);
        kit.due("end(-20)", x.end(-20), -1);
        kit.due("end(min)", x.end(Integer.MIN_VALUE), -1);
        kit.due("count(9)", x.count(9), 20);
        kit.due("end(-1) of none", new LampRounds().end(-1), -1);
    }

    private void house() {
        kit.promise(4, "The TAPE (empty then) is the HOUSE (in place of another)");
        LampRounds x = new LampRounds();
        kit.due("the largest", TestKit.tell(x, FULL), 17);
        kit.due("count(9)", x.count(9), 0);
        kit.due("end(1)", x.end(1), -1);
        TestKit.tell(x, "house law 3 odds 10 minutes 1;" + ROOM);
        int[] counts = {3, 10, 1, 1, 0, 0, 0, 0, 2, 0, 0};
        for (int what = 0; what <= 10; what++) {
            kit.due("count(" + what + ")", x.count(what), counts[what]);
        }
        kit.due("doors(0) of the other are gone", x.doors(0), 0);
        TestKit.tell(x, TWO + "round 1;");
        TestKit.tell(x, TWO);
        kit.due("at(0, 0), the ROUND of the other is gone", x.at(0, 0), 0);
        kit.due("keeps(1), the ROUND of the other is gone", x.keeps(1), 1);
        whatIsFoundIsOfThisHouse();
        TestKit.tell(x, "house law 3 odds 10 minutes 1;" + ROOM);
        kit.due("looks(0, 0) of the other's visitors are gone", x.looks(0, 0), 1);

        kit.promise(4, "nothing done");
        x = TestKit.told(HEAD + ROOM);
        x.nods(0);
        x.visit(0, 0);
        TestKit.tell(x, HEAD + ROOM);
        kit.due("count(7)", x.count(7), 0);
        kit.due("undo()", x.undo(), -5);
        kit.due("age(0, 0, 0)", x.age(0, 0, 0), 0);

        kit.promise(4, "how many LINES");
        fine(HEAD, 1);
        fine(HEAD + ROOM, 2);
        fine(FULL.substring(0, FULL.indexOf("round")), 16);
        fine(FULL, 17);

        kit.promise(4, "(0: there is none then)");
        String[] none = {"", " ", "\n", " \n \n", " ".repeat(500)};
        for (String text : none) {
            fine(text, 0);
            x = TestKit.told("house law 3 odds 10 minutes 30;" + ROOM + ROOM + "way 0 1;visitor in 0 at 0;round 1;");
            x.nods(0);
            kit.due("house() in place of another", TestKit.tell(x, text), 0);
            for (int what = 0; what <= 9; what++) {
                kit.due("count(" + what + ")", x.count(what), 0);
            }
            kit.due("dark(0)", x.dark(0), -2);
            kit.due("undo()", x.undo(), -2);
        }

        kit.promise(4, "-4: a FAULT (all stays)");
        x = TestKit.told(FULL);
        x.visit(2, 5);
        x.nods(6);
        x.rate(1, 50);
        TestKit.row(x, 1, 0, 0, 0);
        faultLeavesAll(x, "house law 4");
        faultLeavesAll(x, HEAD + "room wait 7 worth 7;room wait 7 worth 7;way 0 1;round 1;$");
        x = new LampRounds();
        kit.due("-4 ahead of any", TestKit.tell(x, HEAD + "$"), -4);
        kit.due("no HOUSE still", x.dark(0), -2);
        kit.due("the TAPE is empty then", x.count(9), 0);
    }

    private void whatIsFoundIsOfThisHouse() {
        LampRounds x = TestKit.told(TWO + "way 0 1;");
        for (int time = 0; time < 2; time++) {
            kit.due("states() of 1 1", x.states(), 6);
            kit.due("keeps(3) of 1 1", x.keeps(3), 1);
            kit.due("ring() of 1 1", x.ring(), 2);
            kit.due("rings(4) of 1 1", x.rings(4), 2);
            kit.due("longer(1) of 1 1", x.longer(1), 0);
            kit.due("longest() of 1 1", x.longest(), 100);
            TestKit.tell(x, TWO);
            kit.due("longest() of two apart", x.longest(), 1);
            kit.due("states() of two apart", x.states(), 0);
            kit.due("keeps(3) of two apart", x.keeps(3), 0);
            kit.due("ring() of two apart", x.ring(), -1);
            kit.due("rings(4) of two apart", x.rings(4), 0);
            kit.due("longer(1) of two apart", x.longer(1), -1);
            kit.due("next() of two apart", x.next(), -1);
            TestKit.tell(x, TWO + "way 0 1;");
        }
    }

    private void faultLeavesAll(LampRounds x, String text) {
        x.image(0);
        String before = withoutFault(EdgeKit.state(x));
        kit.due("house() of " + text, TestKit.tell(x, text), -4);
        kit.due("all stays", withoutFault(EdgeKit.state(x)).equals(before) ? 1 : 0, 1);
        kit.due("the TAPE is empty then", x.count(9), 0);
        x.back(0);
        kit.due("an image stays", withoutFault(EdgeKit.state(x)).equals(before) ? 1 : 0, 1);
    }

    /** FAULT and its place stand behind the eleven counts. */
    private static String withoutFault(String state) {
        String[] told = state.split(", ");
        told[11] = "";
        told[12] = "";
        return String.join(", ", told);
    }

    private void fullTape() {
        kit.term("I", "HOUSE: {LINE ;}");
        // 500 bytes, the last of which ends the last LINE
        fine(HEAD + " ".repeat(500 - 29 - 20) + ROOM, 2);
        fine(HEAD.substring(0, 28) + " ".repeat(471) + ";", 1);
        faulty(1, HEAD.substring(0, 28) + " ".repeat(472) + "@");
        faulty(1, HEAD + " ".repeat(470) + "@;");
        faulty(1, HEAD + "@" + ";".repeat(471));
        faulty(1, "@" + ";".repeat(500));
        faulty(1, "@" + "house".repeat(100));
        faulty(1, "@" + "0".repeat(500));
        faulty(2, "house law @" + "9".repeat(490));
        fine("house law " + "0".repeat(400) + "3 odds 0 minutes 8;", 1);
    }

    private void fault() {
        kit.promise(5, "Of the latest house(), what 0: its FAULT, 0 without");
        LampRounds x = new LampRounds();
        int[][] wrongs = {{1, 3}, {2, 10}, {3, 57}};
        String[] texts = {"   $", "house law 4", HEAD + ROOM + "round 0;round"};
        for (int i = 0; i < 3; i++) {
            TestKit.tell(x, texts[i]);
            kit.due("fault(0)", x.fault(0), wrongs[i][0]);
            kit.due("fault(1)", x.fault(1), wrongs[i][1]);
        }
        TestKit.tell(x, HEAD);
        kit.due("fault(0) of a good one", x.fault(0), 0);
        TestKit.tell(x, "$");
        x.house();
        kit.due("fault(0) of an empty one", x.fault(0), 0);
        kit.due("fault(1) of an empty one", x.fault(1), -1);
        TestKit.tell(x, "$");
        x.image(0);
        x.back(0);
        kit.due("fault(0), an image gone back to", x.fault(0), 1);

        kit.promise(5, "1: its place (NONE without)");
        TestKit.tell(x, "$");
        kit.due("fault(1), the first byte", x.fault(1), 0);
        TestKit.tell(x, " ".repeat(499) + "$");
        kit.due("fault(1), the last byte", x.fault(1), 499);
        TestKit.tell(x, "house" + " ".repeat(495));
        kit.due("fault(1), behind the last byte", x.fault(1), 500);
        TestKit.tell(x, HEAD);
        kit.due("fault(1) without", x.fault(1), -1);

        kit.promise(5, "NONE for another what");
        int[] others = {-1, 2, 3, Integer.MIN_VALUE, Integer.MAX_VALUE};
        for (int what : others) {
            kit.due("fault(" + what + ") ahead of any", new LampRounds().fault(what), -1);
            kit.due("fault(" + what + ") without", x.fault(what), -1);
        }
        TestKit.tell(x, HEAD + "$");
        for (int what : others) {
            kit.due("fault(" + what + ") with a FAULT", x.fault(what), -1);
        }

        kit.promise(5, "and ahead of any (what 1)");
        kit.due("fault(1)", new LampRounds().fault(1), -1);
        kit.due("fault(0)", new LampRounds().fault(0), 0);
    }

    // ---- the text

    private void linesOfTheHouse() {
        kit.term("I", "house is the first LINE and no other");
        faulty(1, HEAD + "@house law 0 odds 0 minutes 8;");
        faulty(1, HEAD + ROOM + "@house law 0 odds 0 minutes 8;");
        String[] others = {"room wait 1 worth 1;", "way 0 1;", "visitor in 0 at 0;", "round 0;", "law 0;", "zz", ";", "0"};
        for (String other : others) {
            faulty(1, "@" + other);
            faulty(1, " \n@" + other + HEAD);
        }
        kit.term("text", "(house behind the first LINE, another word ahead of it)");
        faulty(1, HEAD + ROOM + "round 0;@house");
        faulty(1, "@way");
        faulty(1, "@minutes");
    }

    /** Each TOKEN of each LINE, another one in its place, or none: only a number may stand for a number. */
    private void eachToken() {
        kit.term("I", "LINE: house law N odds N minutes N | room wait N worth N | way R R | visitor in R at N | round R {R}");
        replaceEach("", "house law 0 odds 0 minutes 8 ;");
        replaceEach(TWO, "room wait 1 worth 1 ;");
        replaceEach(TWO, "way 0 1 ;");
        replaceEach(TWO, "visitor in 1 at 7 ;");
        replaceEach(TWO, "round 1 ;");
        faulty(1, HEAD + "room wait 1 worth 1 @2;");
        faulty(1, TWO + "way 0 1 @1;");
        faulty(1, TWO + "visitor in 0 at 1 @1;");
        faulty(1, "house law 0 odds 0 minutes 8 @8;");
        fine(TWO + "round 1 0 ;", 4);
        fine(TWO + "round 1 0 0 1 ;", 4);
    }

    private void replaceEach(String ahead, String line) {
        String[] tokens = line.split(" ");
        String[] others = {"house", "law", "odds", "minutes", "room", "wait", "worth", "way", "visitor", "in", "at", "round", ";",
            "0", "zz", "$"};
        for (int i = 0; i < tokens.length; i++) {
            String before = ahead;
            for (int k = 0; k < i; k++) {
                before += tokens[k] + " ";
            }
            boolean opensLine = i == 0 && !ahead.isEmpty();
            for (String other : others) {
                boolean lineWord = opensLine && "room way visitor round".contains(other);
                boolean numbers = Character.isDigit(tokens[i].charAt(0)) && other.equals("0");
                boolean moreOfRound = tokens[i].equals(";") && line.startsWith("round") && other.equals("0");
                if (!other.equals(tokens[i]) && !lineWord && !numbers && !moreOfRound) {
                    faulty(1, before + "@" + other + " ;");
                }
            }
            if (!opensLine && i > 0) {
                faulty(1, before + "@");
            }
        }
    }

    private void misspelt() {
        String[] heads = {"house", "law", "odds", "minutes"};
        for (String word : heads) {
            String text = "house law 0 odds 0 minutes 8;";
            int place = text.indexOf(word);
            misspell(text.substring(0, place), word, text.substring(place + word.length()));
        }
        misspell(TWO, "room", " wait 1 worth 1;");
        misspell(TWO + "room ", "wait", " 1 worth 1;");
        misspell(TWO + "room wait 1 ", "worth", " 1;");
        misspell(TWO, "way", " 0 1;");
        misspell(TWO, "visitor", " in 0 at 1;");
        misspell(TWO + "visitor ", "in", " 0 at 1;");
        misspell(TWO + "visitor in 0 ", "at", " 1;");
        misspell(TWO, "round", " 0 1;");
    }

    /** Each letter another one, or left out; one more ahead, or behind. */
    private void misspell(String ahead, String word, String behind) {
        fine(ahead + word + behind, linesOf(ahead + word + behind));
        for (int i = 0; i < word.length(); i++) {
            faulty(1, ahead + "@" + word.substring(0, i) + "q" + word.substring(i + 1) + behind);
            faulty(1, ahead + "@" + word.substring(0, i) + word.substring(i + 1) + behind);
            // what stands ahead of a capital letter is a word cut short, and can't stand there either
            faulty(1, ahead + "@" + word.substring(0, i) + Character.toUpperCase(word.charAt(i)) + word.substring(i + 1) + behind);
        }
        faulty(1, ahead + "@q" + word + behind);
        faulty(1, ahead + "@" + word + "q" + behind);
    }

    private void bound(String ahead, String behind, int least, int greatest) {
        fine(ahead + least + behind, linesOf(ahead + least + behind));
        fine(ahead + greatest + behind, linesOf(ahead + greatest + behind));
        fine(ahead + "000" + greatest + behind, linesOf(ahead + greatest + behind));
        if (least > 0) {
            faulty(2, ahead + "@" + (least - 1) + behind);
        }
        faulty(1, ahead + "@-1" + behind);
        faulty(2, ahead + "@" + (greatest + 1) + behind);
        // what an int, a long would wrap around to a number in bounds
        faulty(2, ahead + "@" + ((1L << 32) + greatest) + behind);
        faulty(2, ahead + "@" + new java.math.BigInteger("18446744073709551616").add(java.math.BigInteger.valueOf(greatest)) + behind);
        faulty(2, ahead + "@2147483648" + behind);
        faulty(2, ahead + "@1000000" + behind);
    }

    private static int linesOf(String text) {
        return (int) text.chars().filter(c -> c == ';').count();
    }

    private void numbers() {
        kit.term("I", "law 0 .. 3");
        bound("house law ", " odds 0 minutes 8;", 0, 3);
        kit.term("I", "odds 0 .. 10");
        bound("house law 0 odds ", " minutes 8;", 0, 10);
        kit.term("I", "minutes 1 .. 30");
        bound("house law 0 odds 0 minutes ", ";", 1, 30);
        kit.term("I", "room: wait 1 .. 7");
        bound(HEAD + "room wait ", " worth 1;", 1, 7);
        kit.term("I", "worth 0 .. 99");
        bound(HEAD + "room wait 1 worth ", ";", 0, 99);
        kit.term("I", "at 0 .. 29");
        bound(TWO + "visitor in 0 at ", ";", 0, 29);
        fine("house law 0 odds 0 minutes 1;" + ROOM + "visitor in 0 at 29;", 3);
        kit.term("text", "2 a number out of its bounds, not as said.");
        bound(TWO + "way 0 ", ";", 1, 1);
        bound(TWO + "visitor in ", " at 0;", 0, 1);
        bound(TWO + "round ", ";", 0, 1);
        bound(TWO + "round 0 1 ", ";", 0, 1);
    }

    private void roomsToldAhead() {
        kit.term("I", "way: two unlike ROOMS told ahead");
        fine(TWO + "way 0 1;", 4);
        fine(TWO + "way 1 0;", 4);
        faulty(2, TWO + "way 0 @0;");
        faulty(2, TWO + "way 1 @1;");
        faulty(2, TWO + "way @2 0;");
        faulty(2, TWO + "way 0 @2;");
        faulty(2, TWO + "way @2 2;");
        faulty(2, HEAD + "way @0 1;" + ROOM + ROOM);
        faulty(2, HEAD + ROOM + "way 0 @1;" + ROOM);
        kit.term("I", "visitor: a ROOM told ahead");
        faulty(2, HEAD + "visitor in @0 at 0;" + ROOM);
        faulty(2, HEAD + ROOM + "visitor in @1 at 0;" + ROOM);
        fine(HEAD + ROOM + "visitor in 0 at 0;" + ROOM + "visitor in 1 at 0;", 5);
        kit.term("I", "round: 1 .. 12 ROOMS told ahead, one time at most");
        faulty(1, TWO + "round @;");
        fine(TWO + "round 0;", 4);
        fine(TWO + "round" + " 1".repeat(11) + ";", 4);
        fine(TWO + "round" + " 1".repeat(12) + ";", 4);
        faulty(3, TWO + "round" + " 1".repeat(12) + " @1;");
        faulty(2, HEAD + "round @0;" + ROOM);
        faulty(2, HEAD + ROOM + "round 0 @1;" + ROOM);
        faulty(3, TWO + "round 0;@round 0;");
    }

    private void numbered() {
        kit.term("I", "ROOMS 0 .. 3, WAYS 0 .. 5, VISITORS 0 .. 4 are numbered as they stand");
        LampRounds x = TestKit.told("house law 0 odds 1 minutes 8;room wait 1 worth 9;room wait 2 worth 8;room wait 3 worth 7;"
            + "room wait 4 worth 6;way 0 1;way 0 1;way 0 1;way 0 1;way 0 1;way 2 3;visitor in 0 at 1;visitor in 0 at 2;"
            + "visitor in 0 at 3;visitor in 0 at 4;visitor in 1 at 0;");
        for (int r = 0; r < 4; r++) {
            kit.due("room(" + r + ", 0)", x.room(r, 0), r + 1);
            kit.due("room(" + r + ", 1)", x.room(r, 1), 9 - r);
        }
        kit.due("doors(3), of the last WAY", x.doors(3), 4);
        kit.due("count(3)", x.count(3), 4);
        kit.due("count(4)", x.count(4), 6);
        kit.due("count(5)", x.count(5), 5);
        // by seed 0 and odds 1 the first visitor alone comes; odds 8: he and the fourth
        kit.due("drawn(0, 0)", x.drawn(0, 0), 1);
        kit.term("I", "MINUTES 0 .. minutes less 1");
        int[] lengths = {1, 2, 29, 30};
        for (int minutes : lengths) {
            x = TestKit.told("house law 0 odds 0 minutes " + minutes + ";" + ROOM);
            kit.due("at(0, -1) of " + minutes, x.at(0, -1), -2);
            kit.due("at(0, 0) of " + minutes, x.at(0, 0), 0);
            kit.due("at(0, last) of " + minutes, x.at(0, minutes - 1), 0);
            kit.due("at(0, behind the last) of " + minutes, x.at(0, minutes), -2);
            kit.due("nods(last) of " + minutes, x.nods(minutes - 1), 1);
            kit.due("nods(behind the last) of " + minutes, x.nods(minutes), -2);
        }
    }

    private void tokens() {
        kit.term("text", "TOKENS, blanks (32, 10) aside, the longest: words (a .. z), numbers (digits), the sign ;");
        fine(" \n\n house \n law\n0 odds  0\n\nminutes 8 \n; \n ", 1);
        fine("house law0odds0minutes8;room wait1worth1;", 2);
        faulty(1, "@houselaw 0 odds 0 minutes 8;");
        faulty(1, "house @lawodds 0 minutes 8;");
        faulty(1, "@hou se law 0 odds 0 minutes 8;");
        faulty(1, "house law 0 odds 1 @0 minutes 8;");
        faulty(2, "house law 0 odds @0011 minutes 8;");
        fine("house law 0 odds 0010 minutes 8;", 1);
        faulty(1, HEAD + "@;;");
        // bytes beside those of blanks, words, numbers, the sign
        int[] strange = {0, 1, 9, 11, 12, 13, 31, 33, 47, 58, 60, 64, 65, 90, 91, 96, 123, 126, 127, 128, 160, 255};
        for (int sign : strange) {
            faulty(1, "house@" + (char) sign + "law 0 odds 0 minutes 8;");
            faulty(1, "house law 0@" + (char) sign + "odds 0 minutes 8;");
            faulty(1, HEAD + "@" + (char) sign);
        }
        int[] letters = {'a', 'z'};
        for (int sign : letters) {
            faulty(1, "@house" + (char) sign + " law 0 odds 0 minutes 8;");
        }
        // any byte with an eighth bit is not the one without it
        faulty(1, "@" + (char) ('h' + 128) + "ouse law 0 odds 0 minutes 8;");
        faulty(1, "house law @" + (char) ('0' + 128) + " odds 0 minutes 8;");
        faulty(1, HEAD.substring(0, 28) + "@" + (char) (';' + 128));
        faulty(1, "house@" + (char) (' ' + 128) + "law 0 odds 0 minutes 8;");
        for (int digit = 0; digit <= 9; digit++) {
            LampRounds x = TestKit.told("house law 0 odds " + digit + " minutes " + (10 + digit) + ";");
            kit.due("count(1)", x.count(1), digit);
            kit.due("count(2)", x.count(2), 10 + digit);
        }
    }

    private void placesOfFaults() {
        kit.term("text", "FAULTS, the first by its place (a TOKEN's first byte; the end's)");
        faulty(2, "house law @4 odds 11 minutes 31; $");
        faulty(1, "house law 0 @$ odds 11 minutes 31;");
        faulty(2, "house law 0 odds @11 $;");
        faulty(1, "house @lawa 4;");
        faulty(2, HEAD + "room wait @99 worth 100;");
        faulty(1, "house law 0 odds 0 minutes 8@");
        faulty(1, "house law 0 odds 0 minutes 8  \n@");
        faulty(1, "house@");
        faulty(1, TWO + "round 0 1 @");
        faulty(3, TWO + "round 0;@round 9");
        kit.term("text", "of one place the least");
        String twelve = TWO + "round" + " 0".repeat(12);
        faulty(3, twelve + " @1;");
        faulty(2, twelve + " @2;");
        faulty(2, twelve + " @99999999999;");
        faulty(1, twelve + " @way;");
        faulty(1, twelve + "@");
        kit.term("text", "1 a TOKEN that is none, or can't stand there");
        faulty(1, "@$");
        faulty(1, HEAD + "@roo wait 1 worth 1;");
        faulty(1, HEAD + "@at");
    }

    private void tooMany() {
        String four = HEAD + ROOM + ROOM + ROOM + ROOM;
        kit.term("text", "3 a 5th room");
        fine(HEAD, 1);
        fine(HEAD + ROOM + ROOM + ROOM, 4);
        fine(four, 5);
        faulty(3, four + "@" + ROOM);
        faulty(3, four + "@room");
        kit.term("text", "7th way");
        fine(TWO + "way 0 1;".repeat(5), 8);
        fine(TWO + "way 0 1;".repeat(6), 9);
        faulty(3, TWO + "way 0 1;".repeat(6) + "@way 0 1;");
        faulty(3, TWO + "way 0 1;".repeat(6) + "@way 5 5");
        kit.term("text", "6th visitor");
        fine(TWO + "visitor in 0 at 0;".repeat(4), 7);
        fine(TWO + "visitor in 0 at 0;".repeat(5), 8);
        faulty(3, TWO + "visitor in 0 at 0;".repeat(5) + "@visitor in 0 at 0;");
        faulty(3, TWO + "visitor in 0 at 0;".repeat(5) + "@visitor");
        kit.term("text", "2nd round, at its word");
        faulty(3, TWO + "round 0;" + ROOM + "way 0 1;@round 0;");
        faulty(3, TWO + "round 0;\n@round;");
        kit.term("text", "a 13th ROOM of a round, at its number");
        faulty(3, TWO + "round 0 1 0 1 0 1 0 1 0 1 0 1  @1 1 1;");
        fine(TWO + "round 0 1 0 1 0 1 0 1 0 1 0;", 4);
        fine(TWO + "round 0 1 0 1 0 1 0 1 0 1 0 1;", 4);
        // where nothing is too many the limits of one kind leave the others alone
        fine(FULL, 17);
        faulty(3, FULL + "@room");
        faulty(3, FULL + "@way");
        faulty(3, FULL + "@visitor");
        faulty(3, FULL + "@round");
        faulty(1, FULL + "@house");
    }

    // ---- promises 6 to 9

    private static final int[] NO_ROOMS_OF_TWO = {-1, 2, 3, 4, Integer.MIN_VALUE, Integer.MAX_VALUE};

    private void room() {
        kit.promise(6, "Of a ROOM, what 0: wait, 1: worth.");
        LampRounds x = TestKit.told(HEAD + "room wait 1 worth 0;room wait 7 worth 99;");
        kit.due("room(0, 0)", x.room(0, 0), 1);
        kit.due("room(0, 1)", x.room(0, 1), 0);
        kit.due("room(1, 0)", x.room(1, 0), 7);
        kit.due("room(1, 1)", x.room(1, 1), 99);
        kit.promise(6, "-2: there are none such.");
        for (int room : NO_ROOMS_OF_TWO) {
            kit.due("room(" + room + ", 0)", x.room(room, 0), -2);
            kit.due("room(" + room + ", 1)", x.room(room, 1), -2);
        }
        int[] whats = {-1, 2, Integer.MIN_VALUE, Integer.MAX_VALUE};
        for (int what : whats) {
            kit.due("room(0, " + what + ")", x.room(0, what), -2);
        }
        kit.due("room(3, 1) of four", TestKit.told(FULL).room(3, 1), 1);
        kit.due("room(4, 1) of four", TestKit.told(FULL).room(4, 1), -2);
        kit.due("room(0, 0) without ROOMS", TestKit.told(HEAD).room(0, 0), -2);
        kit.due("room(0, 0) without a HOUSE", new LampRounds().room(0, 0), -2);
    }

    private void doors() {
        kit.promise(7, "ROOMS to which there are WAYS from a ROOM, as bits.");
        int[] all = {14, 13, 11, 7};
        for (int r = 0; r < 4; r++) {
            kit.due("doors(" + r + ") of all", TestKit.told(FULL).doors(r), all[r]);
            kit.due("doors(" + r + ") of none", TestKit.told(HEAD + ROOM.repeat(4)).doors(r), 0);
        }
        LampRounds x = TestKit.told(TWO + "way 0 1;way 1 0;way 0 1;");
        kit.due("doors(0) of one told three times", x.doors(0), 2);
        kit.due("doors(1) of one told three times", x.doors(1), 1);
        kit.promise(7, "-2: there is none such.");
        for (int room : NO_ROOMS_OF_TWO) {
            kit.due("doors(" + room + ")", x.doors(room), -2);
        }
        kit.due("doors(4) of four", TestKit.told(FULL).doors(4), -2);
        kit.due("doors(0) without ROOMS", TestKit.told(HEAD).doors(0), -2);
        kit.due("doors(0) without a HOUSE", new LampRounds().doors(0), -2);
    }

    private void far() {
        kit.promise(8, "Minutes from one ROOM to another one by WAYS, at least");
        LampRounds line = TestKit.told(HEAD + ROOM.repeat(4) + "way 0 2;way 2 1;way 1 3;");
        int[][] far = {{0, 2, 1, 3}, {2, 0, 1, 1}, {1, 1, 0, 2}, {3, 1, 2, 0}};
        LampRounds ring = TestKit.told(HEAD + ROOM.repeat(4) + "way 0 2;way 2 1;way 1 3;way 3 0;");
        int[][] shorter = {{0, 2, 1, 1}, {2, 0, 1, 1}, {1, 1, 0, 2}, {1, 1, 2, 0}};
        for (int r = 0; r < 4; r++) {
            for (int s = 0; s < 4; s++) {
                kit.due("far(" + r + ", " + s + ") of a line", line.far(r, s), far[r][s]);
                kit.due("far(" + r + ", " + s + ") of a ring", ring.far(r, s), shorter[r][s]);
            }
        }
        kit.promise(8, "(0: it is the same)");
        LampRounds apart = TestKit.told(TWO);
        kit.due("far(0, 0)", apart.far(0, 0), 0);
        kit.due("far(1, 1)", apart.far(1, 1), 0);
        kit.promise(8, "NONE: there is no way");
        kit.due("far(0, 1)", apart.far(0, 1), -1);
        kit.due("far(1, 0)", apart.far(1, 0), -1);
        LampRounds pairs = TestKit.told(HEAD + ROOM.repeat(4) + "way 0 1;way 2 3;");
        kit.due("far(1, 2)", pairs.far(1, 2), -1);
        kit.due("far(3, 0)", pairs.far(3, 0), -1);
        kit.promise(8, "-2: there are none such.");
        for (int room : NO_ROOMS_OF_TWO) {
            kit.due("far(" + room + ", 0)", apart.far(room, 0), -2);
            kit.due("far(0, " + room + ")", apart.far(0, room), -2);
            kit.due("far(" + room + ", the same)", apart.far(room, room), -2);
        }
        kit.due("far(0, 4) of four", line.far(0, 4), -2);
        kit.due("far(0, 0) without ROOMS", TestKit.told(HEAD).far(0, 0), -2);
        kit.due("far(0, 0) without a HOUSE", new LampRounds().far(0, 0), -2);
    }

    private void round() {
        kit.promise(9, "The ROOM told at place i (from 0) of the ROUND.");
        LampRounds twelve = TestKit.told(FULL);
        for (int i = 0; i < 12; i++) {
            kit.due("round(" + i + ")", twelve.round(i), i % 4);
        }
        LampRounds one = TestKit.told(TWO + "round 1;");
        kit.due("round(0) of one", one.round(0), 1);
        kit.promise(9, "NONE: there is none such");
        kit.due("round(12) of twelve", twelve.round(12), -1);
        kit.due("round(max) of twelve", twelve.round(Integer.MAX_VALUE), -1);
        kit.due("round(1) of one", one.round(1), -1);
        kit.due("round(11) of one", one.round(11), -1);
        kit.due("round(0) without a ROUND", TestKit.told(TWO).round(0), -1);
        kit.due("round(0) without ROOMS", TestKit.told(HEAD).round(0), -1);
        kit.promise(9, "-2: i is below 0");
        kit.due("round(-1)", twelve.round(-1), -2);
        kit.due("round(min)", twelve.round(Integer.MIN_VALUE), -2);
        kit.due("round(-1) without a ROUND", TestKit.told(TWO).round(-1), -2);
        kit.promise(9, "there is no HOUSE");
        kit.due("round(0)", new LampRounds().round(0), -2);
        kit.due("round(12)", new LampRounds().round(12), -2);
        kit.due("round(-1)", new LampRounds().round(-1), -2);
        twelve.house();
        kit.due("round(0), the HOUSE gone", twelve.round(0), -2);
    }
}
