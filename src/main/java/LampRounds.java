/**
 * A house of lamps, each of which goes out unless it is looked at; the promises are those of DOC.md.
 * An answer below 0 tells why there is none; nothing here throws.
 */
public final class LampRounds {
    public static final int NONE = -1;

    private static final int NO_SUCH = -2;
    private static final int BELOW_ZERO = -3;
    private static final int FAULTY = -4;
    private static final int REFUSED = -5;
    private static final int HAS_NOTHING = -6;
    private static final int BEYOND = -7;
    private static final int UNLIKE = -8;
    private static final int NO_GAME = -1000;

    private static final int MOST_BYTES = 500;
    private static final int FED_BYTES = 20;
    private static final int MOST_ROOMS = 4;
    private static final int MOST_WAYS = 6;
    private static final int MOST_VISITORS = 5;
    private static final int MOST_PLACES = 12;
    private static final int MOST_MINUTES = 30;
    private static final int MOST_ACTS = 30;
    private static final int MOST_WAIT = 7;
    private static final int MOST_WORTH = 99;
    private static final int MOST_NUMBERS = 60;
    private static final int MOST_RING = 10;
    private static final int MOST_SPAN = 100;
    private static final int MOST_SEED = 2000000000;
    private static final int MOST_NIGHTS = 20;
    private static final int LAW_COUNT = 4;
    private static final int SLOT_COUNT = 4;
    private static final int IMAGE_COUNT = 3;
    private static final int SET_COUNT = 16;
    private static final int CELLS = MOST_ROOMS * MOST_MINUTES;
    private static final int OUT = 99;
    private static final int HASTE_COST = 3;
    private static final int ALL_COME = 31;
    /** Later than any MINUTE: stands for a flame that never goes out. */
    private static final int NEVER = 1000;
    /** Divided by each of 2 .. 8, which a wait and 1 can be. */
    private static final int PARTS = 840;

    private final Tape tape = new Tape();
    private final House house = new House();
    private final Acts acts = new Acts();
    private final Reader reader = new Reader();
    private final Night night = new Night();
    private final Clues clues = new Clues();
    private final RingSearch ringSearch = new RingSearch();
    private final Image[] images = new Image[IMAGE_COUNT];
    private final Row[] rows = new Row[SLOT_COUNT];
    /** Made when first asked for: it is by far the largest part. */
    private Keeper keeper = null;

    public LampRounds() {
        for (int k = 0; k < IMAGE_COUNT; k++) {
            images[k] = new Image();
        }
        for (int slot = 0; slot < SLOT_COUNT; slot++) {
            rows[slot] = new Row();
        }
    }

    // ---- the text and the HOUSE (promises 2 to 9)

    public int feed(int a, int b, int c, int d, int e) {
        if (tape.size + FED_BYTES > MOST_BYTES) {
            return NONE;
        }
        tape.add(a);
        tape.add(b);
        tape.add(c);
        tape.add(d);
        tape.add(e);
        return tape.size;
    }

    public int end(int n) {
        if (n < 0 || n > tape.size) {
            return NONE;
        }
        tape.size = n;
        return n;
    }

    public int house() {
        reader.read(tape);
        tape.size = 0;
        if (reader.fault != 0) {
            return FAULTY;
        }
        house.copyFrom(reader.draft);
        house.measure();
        acts.size = 0;
        forgetFindings();
        return house.lines;
    }

    public int fault(int what) {
        switch (what) {
            case 0:
                return reader.fault;
            case 1:
                return reader.faultPlace;
            default:
                return NONE;
        }
    }

    public int room(int room, int what) {
        if (!isRoom(room) || !isChoice(what)) {
            return NO_SUCH;
        }
        return what == 0 ? house.waits[room] : house.worths[room];
    }

    public int doors(int room) {
        return isRoom(room) ? house.doorsOf[room] : NO_SUCH;
    }

    public int far(int room, int other) {
        if (!isRoom(room) || !isRoom(other)) {
            return NO_SUCH;
        }
        return house.minutesBetween(room, other);
    }

    public int round(int i) {
        if (i < 0 || !hasHouse()) {
            return NO_SUCH;
        }
        return i < house.length ? house.places[i] : NONE;
    }

    // ---- the night by a MODE (promises 10 to 24)

    public int at(int mode, int minute) {
        if (!isMode(mode) || !isMinute(minute)) {
            return NO_SUCH;
        }
        return tonight(mode).wards[minute];
    }

    public int age(int mode, int room, int minute) {
        if (!isMode(mode) || !isRoom(room) || !isMinute(minute)) {
            return NO_SUCH;
        }
        return tonight(mode).ageOf(room, minute);
    }

    public int left(int mode, int room, int minute) {
        if (!isMode(mode) || !isRoom(room) || !isMinute(minute)) {
            return NO_SUCH;
        }
        return tonight(mode).patience(room, minute);
    }

    public int burns(int mode, int minute) {
        if (!isMode(mode) || !isMinute(minute)) {
            return NO_SUCH;
        }
        return tonight(mode).burning(minute);
    }

    public int out(int mode, int room) {
        if (!isMode(mode) || !isRoom(room)) {
            return NO_SUCH;
        }
        return tonight(mode).outs[room];
    }

    public int dark(int mode) {
        return isMode(mode) ? tonight(mode).darkness() : NO_SUCH;
    }

    public int first(int mode) {
        return isMode(mode) ? tonight(mode).firstOut() : NO_SUCH;
    }

    public int looks(int mode, int room) {
        if (!isMode(mode) || !isRoom(room)) {
            return NO_SUCH;
        }
        return tonight(mode).timesLooked(room);
    }

    public int oldest(int mode, int room) {
        if (!isMode(mode) || !isRoom(room)) {
            return NO_SUCH;
        }
        return tonight(mode).greatestAge(room);
    }

    public int worth(int mode, int minute) {
        if (!isMode(mode) || !isMinute(minute)) {
            return NO_SUCH;
        }
        return house.worthOf(tonight(mode).burning(minute));
    }

    public int steps(int mode) {
        return isMode(mode) ? tonight(mode).moves() : NO_SUCH;
    }

    public int urgent(int mode, int minute) {
        if (!isMode(mode) || !isMinute(minute)) {
            return NO_SUCH;
        }
        return tonight(mode).mostUrgent(minute);
    }

    public int seen(int mode) {
        return isMode(mode) ? tonight(mode).entered() : NO_SUCH;
    }

    public int steady(int mode) {
        return isMode(mode) ? tonight(mode).neverOut() : NO_SUCH;
    }

    public int tight(int mode, int room) {
        if (!isMode(mode) || !isRoom(room)) {
            return NO_SUCH;
        }
        return tonight(mode).leastPatience(room);
    }

    // ---- KEEP (promises 25 to 28)

    public int keeps(int set) {
        if (!hasHouse() || set < 0 || set > house.everyRoom()) {
            return NO_SUCH;
        }
        return isAmong(house.firstPlace(), findings().keptFrom(set)) ? 1 : 0;
    }

    public int states() {
        return hasHouse() ? findings().keptStates() : NO_SUCH;
    }

    public int next() {
        return hasHouse() ? findings().goodMove() : NO_SUCH;
    }

    public int longest() {
        return hasHouse() ? findings().longestSpan() : NO_SUCH;
    }

    // ---- RINGS (promises 29 to 32)

    public int ring() {
        return hasHouse() ? ringSearch.shortestSize() : NO_SUCH;
    }

    public int ringed(int i) {
        if (i < 0 || !hasHouse()) {
            return NO_SUCH;
        }
        return i < ringSearch.shortestSize() ? ringSearch.shortest[i] : NONE;
    }

    public int rings(int n) {
        if (n < 1 || n > MOST_RING || !hasHouse()) {
            return NO_SUCH;
        }
        return ringSearch.howMany(n);
    }

    public int isRing() {
        if (!hasHouse()) {
            return NO_SUCH;
        }
        return ringSearch.roundCloses() ? 1 : 0;
    }

    // ---- which to save, which to give up (promises 33 to 38)

    public int most() {
        return hasHouse() ? house.worthOf(bestKeptSet()) : NO_SUCH;
    }

    public int saved() {
        return hasHouse() ? bestKeptSet() : NO_SUCH;
    }

    public int given() {
        if (!hasHouse()) {
            return NO_SUCH;
        }
        int every = house.everyRoom();
        int best = every;
        for (int set = 0; set <= every; set++) {
            boolean fewer = Integer.bitCount(set) < Integer.bitCount(best);
            if (fewer && isAmong(house.firstPlace(), findings().keptFrom(every & ~set))) {
                best = set;
            }
        }
        return best;
    }

    public int longer(int room) {
        return isRoom(room) ? findings().moreWait(room) : NO_SUCH;
    }

    public int density(int what) {
        if (!hasHouse() || !isChoice(what)) {
            return NO_SUCH;
        }
        int above = 0;
        for (int r = 0; r < house.rooms; r++) {
            above += PARTS / (house.waits[r] + 1);
        }
        return fraction(above, PARTS, what);
    }

    public int even() {
        if (!hasHouse()) {
            return NO_SUCH;
        }
        for (int r = 0; r < house.rooms; r++) {
            for (int s = 0; s < r; s++) {
                int one = house.waits[r] + 1;
                int other = house.waits[s] + 1;
                if (Math.max(one, other) % Math.min(one, other) != 0) {
                    return 0;
                }
            }
        }
        return 1;
    }

    // ---- SHARES (promises 39, 40)

    public int shares(int room) {
        return isRoom(room) ? leastShare(room) : NO_SUCH;
    }

    public int second() {
        if (!hasHouse()) {
            return NO_SUCH;
        }
        for (int r = 0; r < house.rooms; r++) {
            if (leastShare(r) != NONE) {
                return r;
            }
        }
        return NONE;
    }

    // ---- SEEN (promises 41 to 47)

    public int begins(int slot) {
        int refusal = refusalOf(slot);
        return refusal != 0 ? refusal : Integer.bitCount(cluesOf(slot).fitting);
    }

    public int begun(int slot) {
        int refusal = refusalOf(slot);
        if (refusal != 0) {
            return refusal;
        }
        return cluesOf(slot).firstFitting();
    }

    public int window(int slot) {
        int refusal = refusalOf(slot);
        return refusal != 0 ? refusal : cluesOf(slot).bestCell;
    }

    public int leaves(int slot) {
        int refusal = refusalOf(slot);
        return refusal != 0 ? refusal : cluesOf(slot).worst;
    }

    public int laws(int slot) {
        int refusal = refusalOf(slot);
        if (refusal != 0) {
            return refusal;
        }
        int fitting = 0;
        for (int law = 0; law < LAW_COUNT; law++) {
            if (nightByLaw(law).agrees(rows[slot])) {
                fitting |= 1 << law;
            }
        }
        return fitting;
    }

    public int by(int law) {
        if (!hasHouse() || law < 0 || law >= LAW_COUNT) {
            return NO_SUCH;
        }
        return nightByLaw(law).darkness();
    }

    public int law() {
        if (!hasHouse()) {
            return NO_SUCH;
        }
        int best = 0;
        int latest = NONE;
        for (int law = 0; law < LAW_COUNT; law++) {
            int when = lateness(nightByLaw(law).darkness());
            if (when > latest) {
                latest = when;
                best = law;
            }
        }
        return best;
    }

    // ---- the GAME (promises 48, 49)

    public int rests(int room, int other) {
        if (!arePair(room, other)) {
            return NO_SUCH;
        }
        int resting = 0;
        for (int pair = 0; pair < 4; pair++) {
            int one = pair & 1;
            int two = pair >> 1;
            boolean content = getting(room, other, one, two) >= getting(room, other, 1 - one, two);
            boolean otherContent = getting(other, room, two, one) >= getting(other, room, 1 - two, one);
            if (content && otherContent) {
                resting |= 1 << pair;
            }
        }
        return resting;
    }

    public int gets(int room, int other, int hurries, int otherHurries) {
        if (!arePair(room, other) || !isChoice(hurries) || !isChoice(otherHurries)) {
            return NO_GAME;
        }
        return getting(room, other, hurries, otherHurries);
    }

    // ---- CHANCE, SEND (promises 50 to 52)

    public int chance(int minute, int what) {
        if (!isMinute(minute) || !isChoice(what)) {
            return NO_SUCH;
        }
        int above = 0;
        for (int comers = 0; comers < 1 << house.visitors; comers++) {
            if (nightOf(comers).burning(minute) == house.everyRoom()) {
                above += house.weightOf(comers);
            }
        }
        return fraction(above, house.allWeight(), what);
    }

    public int mean(int minute, int what) {
        if (!isMinute(minute) || !isChoice(what)) {
            return NO_SUCH;
        }
        int above = 0;
        for (int comers = 0; comers < 1 << house.visitors; comers++) {
            above += Integer.bitCount(nightOf(comers).burning(minute)) * house.weightOf(comers);
        }
        return fraction(above, house.allWeight(), what);
    }

    public int send() {
        if (!hasHouse()) {
            return NO_SUCH;
        }
        int latest = lateness(tonight(0).darkness());
        int best = NONE;
        for (int r = 0; r < house.rooms; r++) {
            for (int minute = 0; minute < house.minutes; minute++) {
                int when = lateness(nightWithGuest(r, minute).darkness());
                if (when > latest) {
                    latest = when;
                    best = 100 * r + minute;
                }
            }
        }
        return best;
    }

    // ---- acts (promises 53 to 56)

    public int visit(int room, int minute) {
        if (!isRoom(room) || !isMinute(minute)) {
            return NO_SUCH;
        }
        return acts.add(room, minute) ? tonight(0).ageOf(room, minute) : REFUSED;
    }

    public int nods(int minute) {
        if (!isMinute(minute)) {
            return NO_SUCH;
        }
        return acts.add(NONE, minute) ? tonight(0).burning(minute) : REFUSED;
    }

    public int undo() {
        if (!hasHouse()) {
            return NO_SUCH;
        }
        if (acts.size == 0) {
            return REFUSED;
        }
        acts.size--;
        return acts.size;
    }

    public int anew() {
        if (!hasHouse()) {
            return NO_SUCH;
        }
        int taken = acts.size;
        acts.size = 0;
        return taken;
    }

    // ---- nights drawn (promises 57, 58)

    public int drawn(int seed, int what) {
        if (!hasHouse() || !isSeed(seed) || !isChoice(what)) {
            return NO_SUCH;
        }
        int comers = house.drawComers(seed);
        return what == 0 ? comers : nightOf(comers).darkness();
    }

    public int luck(int seed, int n, int room) {
        if (!isRoom(room) || !isSeed(seed) || n < 1 || n > MOST_NIGHTS) {
            return NO_SUCH;
        }
        int dying = 0;
        for (int i = 0; i < n; i++) {
            if (nightOf(house.drawComers((long) seed + i)).outs[room] != NONE) {
                dying++;
            }
        }
        return dying;
    }

    // ---- the rest of the state (promises 59 to 65)

    public int rate(int room, int n) {
        if (!isRoom(room) || n < 0 || n > MOST_WORTH) {
            return NO_SUCH;
        }
        if (acts.size > 0) {
            return REFUSED;
        }
        int old = house.worths[room];
        house.worths[room] = n;
        return old;
    }

    public int count(int what) {
        switch (what) {
            case 0:
                return house.law;
            case 1:
                return house.odds;
            case 2:
                return house.minutes;
            case 3:
                return house.rooms;
            case 4:
                return house.ways;
            case 5:
                return house.visitors;
            case 6:
                return house.length;
            case 7:
                return acts.size;
            case 8:
                return house.lines;
            case 9:
                return tape.size;
            case 10:
                return rowsKept();
            default:
                return NONE;
        }
    }

    public int image(int k) {
        if (k < 0 || k >= IMAGE_COUNT) {
            return NO_SUCH;
        }
        images[k].house.copyFrom(house);
        images[k].acts.copyFrom(acts);
        images[k].kept = true;
        return 0;
    }

    public int back(int k) {
        if (k < 0 || k >= IMAGE_COUNT) {
            return NO_SUCH;
        }
        if (!images[k].kept) {
            return HAS_NOTHING;
        }
        house.copyFrom(images[k].house);
        acts.copyFrom(images[k].acts);
        forgetFindings();
        return 0;
    }

    public int row(int slot, int width, int n) {
        if (!isSlot(slot) || width < 0 || width > 3 || n > MOST_NUMBERS) {
            return NO_SUCH;
        }
        if (n < 0) {
            return BELOW_ZERO;
        }
        rows[slot].clear(width, n);
        return 0;
    }

    public int write(int slot, int i, long v) {
        if (!isSlot(slot)) {
            return NO_SUCH;
        }
        Row target = rows[slot];
        if (!target.kept) {
            return HAS_NOTHING;
        }
        if (i < 0 || i >= target.length) {
            return BEYOND;
        }
        target.numbers[i] = target.cut(v);
        return 0;
    }

    public int paste(int slot, int i, int to, int k, int n) {
        if (!isSlot(slot) || !isSlot(to)) {
            return NO_SUCH;
        }
        Row source = rows[slot];
        Row target = rows[to];
        if (!source.kept || !target.kept) {
            return HAS_NOTHING;
        }
        if (source.width != target.width) {
            return UNLIKE;
        }
        if (!source.hasPart(i, n) || !target.hasPart(k, n)) {
            return BEYOND;
        }
        System.arraycopy(source.numbers, i, target.numbers, k, n);
        return 0;
    }

    // ---- what the calls share

    private boolean hasHouse() {
        return house.lines > 0;
    }

    /** Without a HOUSE there are no ROOMS and no MINUTES, so these three need not ask for it. */
    private boolean isRoom(int room) {
        return room >= 0 && room < house.rooms;
    }

    private boolean arePair(int room, int other) {
        return isRoom(room) && isRoom(other) && room != other;
    }

    private boolean isMinute(int minute) {
        return minute >= 0 && minute < house.minutes;
    }

    private boolean isMode(int mode) {
        return isChoice(mode) && hasHouse();
    }

    private static boolean isChoice(int what) {
        return what == 0 || what == 1;
    }

    private static boolean isSeed(int seed) {
        return seed >= 0 && seed <= MOST_SEED;
    }

    private static boolean isSlot(int slot) {
        return slot >= 0 && slot < SLOT_COUNT;
    }

    private int rowsKept() {
        int kept = 0;
        for (int slot = 0; slot < SLOT_COUNT; slot++) {
            if (rows[slot].kept) {
                kept++;
            }
        }
        return kept;
    }

    private void forgetFindings() {
        ringSearch.forget(house);
        if (keeper != null) {
            keeper.forget(house);
        }
    }

    private Keeper findings() {
        if (keeper == null) {
            keeper = new Keeper();
            keeper.forget(house);
        }
        return keeper;
    }

    /** Whether a beginning is among ROOMS told as bits; where there is no ROOM, nothing can be lost. */
    private static boolean isAmong(int room, int starts) {
        return room == NONE || (starts >> room & 1) != 0;
    }

    private int bestKeptSet() {
        int best = 0;
        for (int set = 1; set <= house.everyRoom(); set++) {
            if (house.worthOf(set) > house.worthOf(best) && isAmong(house.firstPlace(), findings().keptFrom(set))) {
                best = set;
            }
        }
        return best;
    }

    private int leastShare(int room) {
        int every = house.everyRoom();
        for (int set = 0; set <= every; set++) {
            boolean mine = isAmong(house.firstPlace(), findings().keptFrom(set));
            if (mine && isAmong(room, findings().keptFrom(every & ~set))) {
                return set;
            }
        }
        return NONE;
    }

    private Night tonight(int mode) {
        night.prepare(house, acts, ALL_COME);
        night.mode = mode;
        night.pass();
        return night;
    }

    private Night nightByLaw(int law) {
        night.prepare(house, acts, ALL_COME);
        night.law = law;
        night.pass();
        return night;
    }

    private Night nightOf(int comers) {
        night.prepare(house, acts, comers);
        night.pass();
        return night;
    }

    private Night nightWithGuest(int room, int minute) {
        night.prepare(house, acts, ALL_COME);
        night.guests[minute] |= 1 << room;
        night.pass();
        return night;
    }

    private int getting(int room, int other, int hurries, int otherHurries) {
        night.prepare(house, acts, ALL_COME);
        night.mode = 1;
        night.hurry(room, hurries);
        night.hurry(other, otherHurries);
        night.pass();
        return night.timesLooked(room) - HASTE_COST * hurries;
    }

    private static int lateness(int minute) {
        return minute == NONE ? NEVER : minute;
    }

    private static int fraction(int above, int below, int what) {
        int one = below;
        int other = above;
        for (int i = 0; i < 64 && other != 0; i++) {
            int rest = one % other;
            one = other;
            other = rest;
        }
        if (one < 1) {
            return NONE;
        }
        return what == 0 ? above / one : below / one;
    }

    /** 0 if a SLOT's row can be asked about, else the answer that refuses it. */
    private int refusalOf(int slot) {
        if (!isSlot(slot) || !hasHouse()) {
            return NO_SUCH;
        }
        Row told = rows[slot];
        if (!told.kept) {
            return HAS_NOTHING;
        }
        if (told.length % 3 != 0) {
            return NO_SUCH;
        }
        for (int i = 0; i + 2 < told.length; i += 3) {
            if (!told.isBelow(i, house.rooms) || !told.isBelow(i + 1, house.minutes) || !told.isBelow(i + 2, OUT + 1)) {
                return NO_SUCH;
            }
        }
        return 0;
    }

    private Clues cluesOf(int slot) {
        clues.begin(house);
        for (int place = 0; place < house.length; place++) {
            night.prepare(house, acts, ALL_COME);
            night.turn = place;
            night.pass();
            if (night.agrees(rows[slot])) {
                clues.add(place, night);
            }
        }
        clues.choose();
        return clues;
    }

    // ---- classes

    /** The bytes told and not yet read. */
    private static final class Tape {
        final byte[] bytes = new byte[MOST_BYTES];
        int size = 0;

        void add(int four) {
            for (int shift = 24; shift >= 0 && size < MOST_BYTES; shift -= 8) {
                bytes[size] = (byte) (four >> shift);
                size++;
            }
        }
    }

    /** Reads a TAPE into a draft: first all its TOKENS, then LINE by LINE; the first FAULT met is the first by its place. */
    private static final class Reader {
        private static final int END = 0;
        private static final int STRANGE = 1;
        private static final int NUMBER = 2;
        private static final int STOP = 3;
        private static final int HOUSE = 4;
        private static final int LAW = 5;
        private static final int ODDS = 6;
        private static final int MINUTES = 7;
        private static final int ROOM = 8;
        private static final int WAIT = 9;
        private static final int WORTH = 10;
        private static final int WAY = 11;
        private static final int VISITOR = 12;
        private static final int IN = 13;
        private static final int AT = 14;
        private static final int ROUND = 15;
        /** Beyond every bound of the document, and far from where an int would wrap around. */
        private static final int HUGE = 1000000;

        private static final int MISPLACED = 1;
        private static final int OUT_OF_BOUNDS = 2;
        private static final int TOO_MANY = 3;

        final House draft = new House();
        int fault = 0;
        int faultPlace = NONE;
        /** Of each TOKEN, the end among them: what it is, its first byte's place, a number's value. */
        private final byte[] kinds = new byte[MOST_BYTES + 1];
        private final int[] starts = new int[MOST_BYTES + 1];
        private final int[] values = new int[MOST_BYTES + 1];
        private int current = 0;

        void read(Tape tape) {
            takeTokens(tape.bytes, Math.min(tape.size, MOST_BYTES));
            current = 0;
            fault = 0;
            faultPlace = NONE;
            draft.clear();
            for (int i = 0; i <= MOST_BYTES && fault == 0 && kinds[current] != END; i++) {
                readLine();
            }
        }

        private void readLine() {
            boolean opening = draft.lines == 0;
            if (opening != (kinds[current] == HOUSE)) {
                fail(MISPLACED);
                return;
            }
            switch (kinds[current]) {
                case HOUSE:
                    readHead();
                    break;
                case ROOM:
                    readRoom();
                    break;
                case WAY:
                    readWay();
                    break;
                case VISITOR:
                    readVisitor();
                    break;
                case ROUND:
                    readRound();
                    break;
                default:
                    fail(MISPLACED);
                    break;
            }
            expect(STOP);
            draft.lines++;
        }

        private void readHead() {
            expect(HOUSE);
            expect(LAW);
            draft.law = number(0, LAW_COUNT - 1);
            expect(ODDS);
            draft.odds = number(0, 10);
            expect(MINUTES);
            draft.minutes = number(1, MOST_MINUTES);
        }

        private void readRoom() {
            if (draft.rooms >= MOST_ROOMS) {
                fail(TOO_MANY);
                return;
            }
            expect(ROOM);
            expect(WAIT);
            draft.waits[draft.rooms] = number(1, MOST_WAIT);
            expect(WORTH);
            draft.worths[draft.rooms] = number(0, MOST_WORTH);
            draft.rooms++;
        }

        private void readWay() {
            if (draft.ways >= MOST_WAYS) {
                fail(TOO_MANY);
                return;
            }
            expect(WAY);
            int one = number(0, draft.rooms - 1);
            if (kinds[current] == NUMBER && values[current] == one) {
                fail(OUT_OF_BOUNDS);
            }
            int other = number(0, draft.rooms - 1);
            if (fault == 0) {
                draft.doorsOf[one] |= 1 << other;
                draft.doorsOf[other] |= 1 << one;
                draft.ways++;
            }
        }

        private void readVisitor() {
            if (draft.visitors >= MOST_VISITORS) {
                fail(TOO_MANY);
                return;
            }
            expect(VISITOR);
            expect(IN);
            draft.guestRooms[draft.visitors] = number(0, draft.rooms - 1);
            expect(AT);
            draft.guestMinutes[draft.visitors] = number(0, MOST_MINUTES - 1);
            draft.visitors++;
        }

        private void readRound() {
            if (draft.length > 0) {
                fail(TOO_MANY);
                return;
            }
            expect(ROUND);
            readPlace();
            for (int i = 0; i <= MOST_PLACES && fault == 0 && kinds[current] == NUMBER; i++) {
                readPlace();
            }
        }

        private void readPlace() {
            if (draft.length >= MOST_PLACES) {
                fail(values[current] < draft.rooms ? TOO_MANY : OUT_OF_BOUNDS);
                return;
            }
            draft.places[draft.length] = number(0, draft.rooms - 1);
            draft.length++;
        }

        /** Behind a FAULT no TOKEN is taken, and the answer is one that does no harm. */
        private int number(int least, int greatest) {
            int taken = values[current];
            if (kinds[current] != NUMBER) {
                fail(MISPLACED);
            } else if (taken < least || taken > greatest) {
                fail(OUT_OF_BOUNDS);
            }
            if (fault != 0) {
                return least;
            }
            goOn();
            return taken;
        }

        private void expect(int due) {
            if (kinds[current] != due) {
                fail(MISPLACED);
            }
            if (fault == 0) {
                goOn();
            }
        }

        private void goOn() {
            if (current < MOST_BYTES && kinds[current] != END) {
                current++;
            }
        }

        private void fail(int kind) {
            if (fault == 0) {
                fault = kind;
                faultPlace = starts[current];
            }
        }

        private void takeTokens(byte[] bytes, int size) {
            int number = 0;
            int place = 0;
            for (int i = 0; i < MOST_BYTES && place < size; i++) {
                int sign = bytes[place];
                int behind = behindToken(bytes, place, size);
                if (sign != ' ' && sign != '\n') {
                    starts[number] = place;
                    kinds[number] = (byte) kindOf(bytes, place, behind);
                    values[number] = kinds[number] == NUMBER ? valueOf(bytes, place, behind) : 0;
                    number++;
                }
                place = behind;
            }
            starts[number] = size;
            kinds[number] = END;
            values[number] = 0;
        }

        /** Words and numbers go on as long as they can; any other byte stands alone. */
        private static int behindToken(byte[] bytes, int place, int size) {
            boolean digits = isDigit(bytes[place]);
            boolean letters = isLetter(bytes[place]);
            int behind = place + 1;
            while (behind < size && (digits && isDigit(bytes[behind]) || letters && isLetter(bytes[behind]))) {
                behind++;
            }
            return behind;
        }

        private static int valueOf(byte[] bytes, int place, int behind) {
            int value = 0;
            for (int i = place; i < behind; i++) {
                value = Math.min(HUGE, value * 10 + bytes[i] - '0');
            }
            return value;
        }

        private static int kindOf(byte[] bytes, int place, int behind) {
            if (isDigit(bytes[place])) {
                return NUMBER;
            }
            if (bytes[place] == ';') {
                return STOP;
            }
            for (int kind = HOUSE; kind <= ROUND; kind++) {
                if (spells(wordOf(kind), bytes, place, behind)) {
                    return kind;
                }
            }
            return STRANGE;
        }

        private static String wordOf(int kind) {
            switch (kind) {
                case HOUSE:
                    return "house";
                case LAW:
                    return "law";
                case ODDS:
                    return "odds";
                case MINUTES:
                    return "minutes";
                case ROOM:
                    return "room";
                case WAIT:
                    return "wait";
                case WORTH:
                    return "worth";
                case WAY:
                    return "way";
                case VISITOR:
                    return "visitor";
                case IN:
                    return "in";
                case AT:
                    return "at";
                default:
                    return "round";
            }
        }

        private static boolean spells(String word, byte[] bytes, int place, int behind) {
            if (word.length() != behind - place) {
                return false;
            }
            for (int i = 0; i < word.length(); i++) {
                if (bytes[place + i] != word.charAt(i)) {
                    return false;
                }
            }
            return true;
        }

        private static boolean isDigit(int sign) {
            return sign >= '0' && sign <= '9';
        }

        private static boolean isLetter(int sign) {
            return sign >= 'a' && sign <= 'z';
        }
    }

    /** A HOUSE as it was told; one of no LINES is none. */
    private static final class House {
        int lines = 0;
        int law = 0;
        int odds = 0;
        int minutes = 0;
        int rooms = 0;
        int ways = 0;
        int visitors = 0;
        int length = 0;
        final int[] waits = new int[MOST_ROOMS];
        final int[] worths = new int[MOST_ROOMS];
        final int[] doorsOf = new int[MOST_ROOMS];
        final int[] distances = new int[MOST_ROOMS * MOST_ROOMS];
        final int[] guestRooms = new int[MOST_VISITORS];
        final int[] guestMinutes = new int[MOST_VISITORS];
        final int[] places = new int[MOST_PLACES];

        void clear() {
            lines = 0;
            law = 0;
            odds = 0;
            minutes = 0;
            rooms = 0;
            ways = 0;
            visitors = 0;
            length = 0;
            for (int r = 0; r < MOST_ROOMS; r++) {
                doorsOf[r] = 0;
            }
        }

        void copyFrom(House other) {
            lines = other.lines;
            law = other.law;
            odds = other.odds;
            minutes = other.minutes;
            rooms = other.rooms;
            ways = other.ways;
            visitors = other.visitors;
            length = other.length;
            System.arraycopy(other.waits, 0, waits, 0, MOST_ROOMS);
            System.arraycopy(other.worths, 0, worths, 0, MOST_ROOMS);
            System.arraycopy(other.doorsOf, 0, doorsOf, 0, MOST_ROOMS);
            System.arraycopy(other.distances, 0, distances, 0, MOST_ROOMS * MOST_ROOMS);
            System.arraycopy(other.guestRooms, 0, guestRooms, 0, MOST_VISITORS);
            System.arraycopy(other.guestMinutes, 0, guestMinutes, 0, MOST_VISITORS);
            System.arraycopy(other.places, 0, places, 0, MOST_PLACES);
        }

        void measure() {
            for (int from = 0; from < MOST_ROOMS; from++) {
                for (int to = 0; to < MOST_ROOMS; to++) {
                    distances[from * MOST_ROOMS + to] = NONE;
                }
                spread(from);
            }
        }

        private void spread(int from) {
            int reached = 0;
            int edge = 1 << from;
            for (int minutesGone = 0; minutesGone < MOST_ROOMS; minutesGone++) {
                int beyond = 0;
                for (int r = 0; r < MOST_ROOMS; r++) {
                    if ((edge >> r & 1) != 0) {
                        distances[from * MOST_ROOMS + r] = minutesGone;
                        beyond |= doorsOf[r];
                    }
                }
                reached |= edge;
                edge = beyond & ~reached;
            }
        }

        int minutesBetween(int from, int to) {
            return distances[from * MOST_ROOMS + to];
        }

        boolean canGo(int from, int to) {
            return from == to || (doorsOf[from] >> to & 1) != 0;
        }

        /** The ROOM a minute later on the way from one to another. */
        int towards(int from, int to) {
            int whole = minutesBetween(from, to);
            for (int r = 0; r < rooms && whole > 0; r++) {
                if ((doorsOf[from] >> r & 1) != 0 && minutesBetween(r, to) == whole - 1) {
                    return r;
                }
            }
            return from;
        }

        int firstPlace() {
            if (rooms == 0) {
                return NONE;
            }
            return length > 0 ? places[0] : 0;
        }

        int everyRoom() {
            return (1 << rooms) - 1;
        }

        int worthOf(int set) {
            int sum = 0;
            for (int r = 0; r < rooms; r++) {
                if ((set >> r & 1) != 0) {
                    sum += worths[r];
                }
            }
            return sum;
        }

        /** Of allWeight(), how often just these of the visitors come. */
        int weightOf(int comers) {
            int weight = 1;
            for (int v = 0; v < visitors; v++) {
                weight *= (comers >> v & 1) != 0 ? odds : 10 - odds;
            }
            return weight;
        }

        int allWeight() {
            int weight = 1;
            for (int v = 0; v < visitors; v++) {
                weight *= 10;
            }
            return weight;
        }

        int drawComers(long seed) {
            long x = seed;
            int comers = 0;
            for (int v = 0; v < visitors; v++) {
                x = 1103515245L * x + 12345L & 0x7fffffffL;
                if (x / 65536 % 10 < odds) {
                    comers |= 1 << v;
                }
            }
            return comers;
        }
    }

    /** What was done besides what the HOUSE tells; in ROOM NONE stands a nod. */
    private static final class Acts {
        final int[] inRooms = new int[MOST_ACTS];
        final int[] atMinutes = new int[MOST_ACTS];
        int size = 0;

        boolean add(int where, int when) {
            if (size >= MOST_ACTS) {
                return false;
            }
            inRooms[size] = where;
            atMinutes[size] = when;
            size++;
            return true;
        }

        void copyFrom(Acts other) {
            size = other.size;
            System.arraycopy(other.inRooms, 0, inRooms, 0, MOST_ACTS);
            System.arraycopy(other.atMinutes, 0, atMinutes, 0, MOST_ACTS);
        }
    }

    private static final class Image {
        final House house = new House();
        final Acts acts = new Acts();
        boolean kept = false;
    }

    private static final class Row {
        final long[] numbers = new long[MOST_NUMBERS];
        int width = 0;
        int length = 0;
        boolean kept = false;

        void clear(int newWidth, int newLength) {
            width = newWidth;
            length = newLength;
            kept = true;
            for (int i = 0; i < MOST_NUMBERS; i++) {
                numbers[i] = 0;
            }
        }

        long cut(long v) {
            switch (width) {
                case 0:
                    return (byte) v;
                case 1:
                    return (short) v;
                case 2:
                    return (int) v;
                default:
                    return v;
            }
        }

        boolean hasPart(int from, int n) {
            return from >= 0 && n >= 0 && (long) from + n <= length;
        }

        boolean isBelow(int i, int bound) {
            return numbers[i] >= 0 && numbers[i] < bound;
        }
    }

    /** One night, minute by minute; what is tried otherwise than told is set between prepare() and pass(). */
    private static final class Night {
        final int[] waits = new int[MOST_ROOMS];
        final int[] guests = new int[MOST_MINUTES];
        final int[] wards = new int[MOST_MINUTES];
        final int[] lookedAt = new int[MOST_MINUTES];
        final int[] ages = new int[CELLS];
        final int[] outs = new int[MOST_ROOMS];
        int law = 0;
        int turn = 0;
        int mode = 0;
        private int naps = 0;
        private int rooms = 0;
        private int minutes = 0;
        private House house = null;

        void prepare(House told, Acts acts, int comers) {
            house = told;
            rooms = told.rooms;
            minutes = told.minutes;
            law = told.law;
            turn = 0;
            mode = 0;
            naps = 0;
            System.arraycopy(told.waits, 0, waits, 0, MOST_ROOMS);
            for (int minute = 0; minute < MOST_MINUTES; minute++) {
                guests[minute] = 0;
            }
            for (int v = 0; v < told.visitors; v++) {
                if ((comers >> v & 1) != 0) {
                    guests[told.guestMinutes[v]] |= 1 << told.guestRooms[v];
                }
            }
            for (int i = 0; i < acts.size; i++) {
                if (acts.inRooms[i] == NONE) {
                    naps |= 1 << acts.atMinutes[i];
                } else {
                    guests[acts.atMinutes[i]] |= 1 << acts.inRooms[i];
                }
            }
        }

        void hurry(int flame, int less) {
            waits[flame] = Math.max(1, waits[flame] - less);
        }

        void pass() {
            for (int r = 0; r < MOST_ROOMS; r++) {
                outs[r] = NONE;
            }
            for (int minute = 0; minute < minutes; minute++) {
                wards[minute] = whereabouts(minute);
                ageFlames(minute);
            }
        }

        private int whereabouts(int minute) {
            if (rooms == 0) {
                return NONE;
            }
            if (minute == 0) {
                return house.length > 0 ? house.places[turn] : 0;
            }
            int here = wards[minute - 1];
            if (mode == 1) {
                int goal = mostUrgent(minute - 1);
                return goal == NONE ? here : house.towards(here, goal);
            }
            if (house.length == 0) {
                return here;
            }
            int place = house.places[(turn + minute) % house.length];
            return house.canGo(here, place) ? place : here;
        }

        /** The ROOM from which he looks; NONE if he nods, or there is no such MINUTE. */
        private int watching(int minute) {
            if (minute < 0 || (naps >> minute & 1) != 0) {
                return NONE;
            }
            return wards[minute];
        }

        private void ageFlames(int minute) {
            int here = watching(minute);
            lookedAt[minute] = guests[minute] | (here == NONE ? 0 : 1 << here);
            for (int r = 0; r < rooms; r++) {
                int was = minute == 0 ? 0 : ageOf(r, minute - 1);
                int becomes = was == OUT ? OUT : agedFlame(r, minute, was);
                if (becomes != OUT && becomes > waits[r]) {
                    becomes = OUT;
                    outs[r] = minute;
                }
                ages[minute * MOST_ROOMS + r] = becomes;
            }
        }

        private int agedFlame(int flame, int minute, int was) {
            int here = watching(minute);
            if ((lookedAt[minute] >> flame & 1) == 0) {
                boolean near = law == 3 && here != NONE && house.canGo(here, flame);
                return near ? was : was + 1;
            }
            if (law == 1) {
                return was / 2;
            }
            boolean visited = (guests[minute] >> flame & 1) != 0;
            if (law == 2 && !visited && watching(minute - 1) != flame) {
                return was;
            }
            return 0;
        }

        int ageOf(int flame, int minute) {
            return ages[minute * MOST_ROOMS + flame];
        }

        int patience(int flame, int minute) {
            int old = ageOf(flame, minute);
            return old == OUT ? NONE : waits[flame] - old;
        }

        int mostUrgent(int minute) {
            int best = NONE;
            for (int r = 0; r < rooms; r++) {
                int waiting = patience(r, minute);
                if (waiting != NONE && (best == NONE || waiting < patience(best, minute))) {
                    best = r;
                }
            }
            return best;
        }

        int burning(int minute) {
            int set = 0;
            for (int r = 0; r < rooms; r++) {
                if (ageOf(r, minute) != OUT) {
                    set |= 1 << r;
                }
            }
            return set;
        }

        int neverOut() {
            return minutes > 0 ? burning(minutes - 1) : 0;
        }

        int firstOut() {
            int best = NONE;
            for (int r = 0; r < rooms; r++) {
                if (outs[r] != NONE && (best == NONE || outs[r] < outs[best])) {
                    best = r;
                }
            }
            return best;
        }

        int darkness() {
            int flame = firstOut();
            return flame == NONE ? NONE : outs[flame];
        }

        int timesLooked(int flame) {
            int times = 0;
            for (int minute = 0; minute < minutes; minute++) {
                times += lookedAt[minute] >> flame & 1;
            }
            return times;
        }

        int greatestAge(int flame) {
            int greatest = 0;
            for (int minute = 0; minute < minutes; minute++) {
                greatest = Math.max(greatest, ageOf(flame, minute));
            }
            return greatest;
        }

        int leastPatience(int flame) {
            int least = waits[flame];
            for (int minute = 0; minute < minutes; minute++) {
                int waiting = patience(flame, minute);
                if (waiting != NONE) {
                    least = Math.min(least, waiting);
                }
            }
            return least;
        }

        int moves() {
            int gone = 0;
            for (int minute = 1; minute < minutes; minute++) {
                if (wards[minute] != wards[minute - 1]) {
                    gone++;
                }
            }
            return gone;
        }

        int entered() {
            int set = 0;
            for (int minute = 0; minute < minutes; minute++) {
                if (wards[minute] != NONE) {
                    set |= 1 << wards[minute];
                }
            }
            return set;
        }

        /** The row's numbers have been looked at: each ROOM, MINUTE is one. */
        boolean agrees(Row told) {
            for (int i = 0; i + 2 < told.length; i += 3) {
                if (ageOf((int) told.numbers[i], (int) told.numbers[i + 1]) != told.numbers[i + 2]) {
                    return false;
                }
            }
            return true;
        }
    }

    /** Places of the ROUND that fit what was seen, and what one AGE more would tell of them. */
    private static final class Clues {
        final byte[] agesFrom = new byte[MOST_PLACES * CELLS];
        int fitting = 0;
        int bestCell = NONE;
        int worst = 0;
        private int rooms = 0;
        private int minutes = 0;

        void begin(House house) {
            rooms = house.rooms;
            minutes = house.minutes;
            fitting = 0;
        }

        void add(int place, Night night) {
            fitting |= 1 << place;
            for (int cell = 0; cell < minutes * MOST_ROOMS; cell++) {
                agesFrom[place * CELLS + cell] = (byte) night.ages[cell];
            }
        }

        int firstFitting() {
            for (int place = 0; place < MOST_PLACES; place++) {
                if ((fitting >> place & 1) != 0) {
                    return place;
                }
            }
            return NONE;
        }

        void choose() {
            worst = Integer.bitCount(fitting);
            bestCell = NONE;
            for (int r = 0; r < rooms; r++) {
                for (int minute = 0; minute < minutes; minute++) {
                    int most = largestClass(minute * MOST_ROOMS + r);
                    if (most < worst) {
                        worst = most;
                        bestCell = 100 * r + minute;
                    }
                }
            }
        }

        private int largestClass(int cell) {
            int largest = 0;
            for (int place = 0; place < MOST_PLACES; place++) {
                if ((fitting >> place & 1) != 0) {
                    largest = Math.max(largest, alike(cell, agesFrom[place * CELLS + cell]));
                }
            }
            return largest;
        }

        private int alike(int cell, int old) {
            int number = 0;
            for (int place = 0; place < MOST_PLACES; place++) {
                if ((fitting >> place & 1) != 0 && agesFrom[place * CELLS + cell] == old) {
                    number++;
                }
            }
            return number;
        }
    }

    /**
     * AGES of a set of flames, four bits each, the warden alone looking. Flames beside the set stay 0,
     * and a bit is left above the greatest AGE (7), so that one sum tells whether any flame goes out.
     */
    private static final class Ageing {
        private static final int TOP_BITS = 0x8888;

        final int[] older = new int[MOST_ROOMS];
        private int slack = 0;
        private int law = 0;

        void prepare(House house, int set) {
            law = house.law;
            slack = 0;
            for (int r = 0; r < MOST_ROOMS; r++) {
                older[r] = 0;
                int wait = (set >> r & 1) != 0 ? house.waits[r] : 0;
                slack |= MOST_WAIT - wait << 4 * r;
            }
            for (int to = 0; to < house.rooms; to++) {
                for (int r = 0; r < house.rooms; r++) {
                    boolean spared = r == to || law == 3 && house.canGo(to, r);
                    if (!spared && (set >> r & 1) != 0) {
                        older[to] |= 1 << 4 * r;
                    }
                }
            }
        }

        /** No more than 7 in all, as the document has it: the four bits hold no more. */
        void lengthen(int flame, int more) {
            int spare = slack >> 4 * flame & 15;
            slack -= Math.min(spare, more) << 4 * flame;
        }

        boolean allBurn(int ages) {
            return (ages + slack & TOP_BITS) == 0;
        }

        /** AGES at the end of a MINUTE in a ROOM, the one ahead having been spent in another; NONE if one goes out. */
        int after(int ages, int from, int to) {
            int shift = 4 * to;
            int own = ages >> shift & 15;
            int becomes = 0;
            if (law == 1) {
                becomes = own >> 1;
            } else if (law == 2 && from != to) {
                becomes = own;
            }
            int later = ages - (own << shift) + (becomes << shift) + older[to];
            return (later + slack & TOP_BITS) == 0 ? later : NONE;
        }
    }

    /**
     * Which STATES can be kept for ever: those from which a way leads into a circle. A search goes from a
     * STATE as far as it can; where it meets its own trail, or a STATE that is kept, the whole trail is kept.
     */
    private static final class Keeper {
        private static final int STATE_COUNT = MOST_ROOMS << 12;
        private static final int UNKNOWN = 0;
        private static final int OPEN = 1;
        private static final int KEPT = 2;
        private static final int LOST = 3;
        private static final int FAR_ABOVE = 1000000;
        private static final int NOT_ASKED = -3;

        private final Ageing ageing = new Ageing();
        /** Two bits for each STATE. */
        private final long[] marks = new long[STATE_COUNT / 32];
        /** STATES on the way, each with the ROOM to try next in the three lowest bits. */
        private final int[] trail = new int[STATE_COUNT];
        /** How many MINUTES a lost STATE lasts, itself included. */
        private final byte[] spans = new byte[STATE_COUNT];
        private final int[] startsKept = new int[SET_COUNT];
        private final int[] moreWaits = new int[MOST_ROOMS];
        private House house = null;
        private int readySet = NONE;
        private int stateTally = NOT_ASKED;

        /** Comes ahead of any question: nothing is known yet of a HOUSE. */
        void forget(House newHouse) {
            house = newHouse;
            readySet = NONE;
            stateTally = NOT_ASKED;
            for (int set = 0; set < SET_COUNT; set++) {
                startsKept[set] = NOT_ASKED;
            }
            for (int r = 0; r < MOST_ROOMS; r++) {
                moreWaits[r] = NOT_ASKED;
            }
        }

        /** ROOMS from which a warden can keep a set for ever, as bits. */
        int keptFrom(int set) {
            if (set < 0 || set >= SET_COUNT) {
                return 0;
            }
            if (startsKept[set] == NOT_ASKED) {
                makeReady(set);
                startsKept[set] = 0;
                for (int r = 0; r < house.rooms; r++) {
                    if (canKeep(startIn(r))) {
                        startsKept[set] |= 1 << r;
                    }
                }
            }
            return startsKept[set];
        }

        int keptStates() {
            if (stateTally == NOT_ASKED) {
                makeReady(house.everyRoom());
                stateTally = 0;
                for (int index = 0; index < house.rooms << 12; index++) {
                    int state = stateOf(index);
                    if (ageing.allBurn(state & 0xffff) && canKeep(state)) {
                        stateTally++;
                    }
                }
            }
            return stateTally;
        }

        int goodMove() {
            int start = house.firstPlace();
            if (start == NONE) {
                return NONE;
            }
            makeReady(house.everyRoom());
            for (int to = 0; to < house.rooms; to++) {
                int later = follow(startIn(start), to);
                if (later != NONE && canKeep(later)) {
                    return to;
                }
            }
            return NONE;
        }

        int longestSpan() {
            int start = house.firstPlace();
            if (start == NONE) {
                return MOST_SPAN;
            }
            makeReady(house.everyRoom());
            int state = startIn(start);
            return canKeep(state) ? MOST_SPAN : spans[indexOf(state)];
        }

        int moreWait(int flame) {
            if (moreWaits[flame] == NOT_ASKED) {
                moreWaits[flame] = NONE;
                int most = MOST_WAIT - house.waits[flame];
                for (int more = 0; more <= most && moreWaits[flame] == NONE; more++) {
                    if (isKeptWith(flame, more)) {
                        moreWaits[flame] = more;
                    }
                }
            }
            return moreWaits[flame];
        }

        private boolean isKeptWith(int flame, int more) {
            ageing.prepare(house, house.everyRoom());
            ageing.lengthen(flame, more);
            wipe();
            readySet = NONE;
            return canKeep(startIn(house.firstPlace()));
        }

        /** What is known of a set's STATES stays until another set is asked for. */
        private void makeReady(int set) {
            if (readySet != set) {
                ageing.prepare(house, set);
                wipe();
                readySet = set;
            }
        }

        private void wipe() {
            for (int i = 0; i < marks.length; i++) {
                marks[i] = 0;
            }
        }

        /** In one MINUTE no flame goes out, as each can wait 1 at least. */
        private int startIn(int where) {
            return where << 16 | Math.max(0, ageing.after(0, NONE, where));
        }

        private int follow(int state, int to) {
            int from = state >> 16;
            if (!house.canGo(from, to)) {
                return NONE;
            }
            int ages = ageing.after(state & 0xffff, from, to);
            return ages == NONE ? NONE : to << 16 | ages;
        }

        private boolean canKeep(int state) {
            int index = indexOf(state);
            if (markAt(index) == UNKNOWN) {
                search(state);
            }
            return markAt(index) == KEPT;
        }

        private void search(int origin) {
            push(0, origin);
            int height = 1;
            for (int i = 0; i < FAR_ABOVE && height > 0; i++) {
                int top = trail[height - 1];
                if ((top & 7) >= house.rooms) {
                    height--;
                    outlast(height - 1, lose(top >> 3));
                    continue;
                }
                trail[height - 1] = top + 1;
                int later = follow(top >> 3, top & 7);
                int mark = later == NONE ? LOST : markAt(indexOf(later));
                if (mark == UNKNOWN && height < STATE_COUNT) {
                    push(height, later);
                    height++;
                } else if (mark != LOST) {
                    keepTrail(height);
                    height = 0;
                } else if (later != NONE) {
                    outlast(height - 1, spans[indexOf(later)]);
                }
            }
        }

        private void push(int height, int state) {
            int index = indexOf(state);
            trail[height] = state << 3;
            spans[index] = 0;
            mark(index, OPEN);
        }

        /** Not to be kept, as no move from it is: how many MINUTES it lasts. */
        private int lose(int state) {
            int index = indexOf(state);
            mark(index, LOST);
            spans[index] = (byte) Math.min(MOST_SPAN, spans[index] + 1);
            return spans[index];
        }

        /** A STATE on the trail lasts longer than those behind it; so far their spans are gathered, its own MINUTE aside. */
        private void outlast(int height, int span) {
            if (height >= 0) {
                int index = indexOf(trail[height] >> 3);
                spans[index] = (byte) Math.max(spans[index], span);
            }
        }

        private void keepTrail(int height) {
            for (int i = 0; i < height; i++) {
                mark(indexOf(trail[i] >> 3), KEPT);
            }
        }

        /** Three bits an AGE are enough for a place, as each is 7 at most. */
        private static int indexOf(int state) {
            int ages = state & 7 | state >> 1 & 7 << 3 | state >> 2 & 7 << 6 | state >> 3 & 7 << 9;
            return state >> 16 << 12 | ages;
        }

        private static int stateOf(int index) {
            int ages = index & 7 | (index & 7 << 3) << 1 | (index & 7 << 6) << 2 | (index & 7 << 9) << 3;
            return index >> 12 << 16 | ages;
        }

        private int markAt(int index) {
            return (int) (marks[index >> 5] >> 2 * (index & 31)) & 3;
        }

        private void mark(int index, int kind) {
            int shift = 2 * (index & 31);
            marks[index >> 5] = marks[index >> 5] & ~(3L << shift) | (long) kind << shift;
        }
    }

    /**
     * RINGS of a size. AGES never shrink by an older beginning, so a RING turned is a RING: only rows that are
     * least among their turns are tried, and each stands for as many rows as it has turns.
     */
    private static final class RingSearch {
        private static final int NOT_ASKED = -3;
        /** Each time around, AGES together grow by 1 at least, or are as before; they can't be above 28. */
        private static final int MOST_TIMES_AROUND = 40;

        final int[] shortest = new int[MOST_RING];
        private final Ageing ageing = new Ageing();
        private final int[] counts = new int[MOST_RING + 1];
        private final int[] path = new int[MOST_PLACES + 1];
        private final int[] agesAt = new int[MOST_PLACES + 1];
        private final int[] agesAround = new int[MOST_PLACES + 1];
        private House house = null;
        private int shortestFound = NONE;
        private int size = 0;
        private int found = 0;
        private boolean oneIsEnough = false;

        /** Comes ahead of any question: nothing is known yet of a HOUSE. */
        void forget(House newHouse) {
            house = newHouse;
            shortestFound = NOT_ASKED;
            for (int n = 0; n <= MOST_RING; n++) {
                counts[n] = NOT_ASKED;
            }
        }

        int howMany(int n) {
            if (counts[n] == NOT_ASKED) {
                counts[n] = search(n, false);
            }
            return counts[n];
        }

        int shortestSize() {
            if (shortestFound == NOT_ASKED) {
                shortestFound = NONE;
                for (int n = 1; n <= MOST_RING && shortestFound == NONE; n++) {
                    if (search(n, true) > 0) {
                        shortestFound = n;
                    }
                }
            }
            return shortestFound;
        }

        boolean roundCloses() {
            begin(house.length);
            for (int i = 1; i <= size; i++) {
                if (!enter(i, house.places[i - 1])) {
                    return false;
                }
            }
            return size > 0 && closes();
        }

        private int search(int n, boolean firstAlone) {
            begin(n);
            oneIsEnough = firstAlone;
            grow(1, 1);
            return found;
        }

        private void begin(int n) {
            ageing.prepare(house, house.everyRoom());
            size = n;
            found = 0;
            path[0] = 0;
            agesAt[0] = 0;
        }

        /** Rows whose beginning, up to a depth, repeats itself with a period, in rising order. */
        private void grow(int depth, int period) {
            if (depth > size || depth > MOST_RING) {
                if (period > 0 && size % period == 0 && closes()) {
                    take(period);
                }
                return;
            }
            int repeated = path[depth - period];
            for (int to = repeated; to < house.rooms; to++) {
                if (oneIsEnough && found > 0) {
                    return;
                }
                if (enter(depth, to)) {
                    grow(depth + 1, to == repeated ? period : depth);
                }
            }
        }

        private void take(int turns) {
            if (oneIsEnough) {
                System.arraycopy(path, 1, shortest, 0, size);
            }
            found += turns;
        }

        private boolean enter(int depth, int to) {
            int from = depth > 1 ? path[depth - 1] : NONE;
            if (from != NONE && !house.canGo(from, to)) {
                return false;
            }
            int ages = ageing.after(agesAt[depth - 1], from, to);
            path[depth] = to;
            agesAt[depth] = ages;
            return ages != NONE;
        }

        /** The row has been gone once; it closes if, sooner or later, AGES are at a place as the time before. */
        private boolean closes() {
            int from = path[size];
            int ages = agesAt[size];
            if (!house.canGo(from, path[1])) {
                return false;
            }
            System.arraycopy(agesAt, 0, agesAround, 0, size + 1);
            for (int time = 0; time < MOST_TIMES_AROUND; time++) {
                for (int i = 1; i <= size; i++) {
                    ages = ageing.after(ages, from, path[i]);
                    if (ages == NONE || ages == agesAround[i]) {
                        return ages != NONE;
                    }
                    agesAround[i] = ages;
                    from = path[i];
                }
            }
            return false;
        }
    }
}
