import java.util.ArrayList;
import java.util.HashSet;
import java.util.List;
import java.util.Random;
import java.util.Set;

/**
 * A second, slow telling of the document: each answer by trying all there is, with none of the class's means
 * (no packed ages, no search that stops early, no rows left out because they are turns of others).
 */
final class Model {
    int law;
    int odds;
    int minutes;
    int[] waits = {};
    int[] worths = {};
    boolean[][] way = {};
    int wayCount;
    List<int[]> visitors = new ArrayList<>();
    int[] round = {};
    List<int[]> acts = new ArrayList<>();
    String text = "";

    static Model random(Random random, int mostRooms, int mostWait) {
        Model m = new Model();
        int rooms = random.nextInt(mostRooms + 1);
        m.law = random.nextInt(4);
        m.odds = random.nextInt(11);
        m.minutes = 1 + random.nextInt(30);
        StringBuilder text = new StringBuilder();
        text.append("house law ").append(m.law).append(" odds ").append(m.odds).append(" minutes ").append(m.minutes).append(";");
        m.waits = new int[rooms];
        m.worths = new int[rooms];
        m.way = new boolean[rooms][rooms];
        for (int r = 0; r < rooms; r++) {
            m.waits[r] = 1 + random.nextInt(mostWait);
            m.worths[r] = random.nextInt(random.nextBoolean() ? 4 : 100);
            text.append("room wait ").append(m.waits[r]).append(" worth ").append(m.worths[r]).append(";");
        }
        int dense = random.nextInt(4);
        for (int a = 0; a < rooms; a++) {
            for (int b = 0; b < a; b++) {
                if (random.nextInt(4) <= dense) {
                    m.way[a][b] = true;
                    m.way[b][a] = true;
                    m.wayCount++;
                    text.append("way ").append(random.nextBoolean() ? a + " " + b : b + " " + a).append(";");
                }
            }
        }
        if (rooms > 0) {
            int guests = random.nextInt(6);
            for (int v = 0; v < guests; v++) {
                int[] guest = {random.nextInt(rooms), random.nextInt(30)};
                m.visitors.add(guest);
                text.append("visitor in ").append(guest[0]).append(" at ").append(guest[1]).append(";");
            }
            if (random.nextInt(6) > 0) {
                m.round = new int[1 + random.nextInt(12)];
                text.append("round");
                boolean walk = random.nextBoolean();
                int here = random.nextInt(rooms);
                for (int i = 0; i < m.round.length; i++) {
                    m.round[i] = here;
                    text.append(" ").append(here);
                    int there = random.nextInt(rooms);
                    here = !walk || there == here || m.way[here][there] ? there : here;
                }
                text.append(";");
            }
        }
        m.text = text.toString();
        return m;
    }

    int rooms() {
        return waits.length;
    }

    int every() {
        return (1 << rooms()) - 1;
    }

    int start() {
        return round.length > 0 ? round[0] : 0;
    }

    int distance(int from, int to) {
        boolean[] reached = new boolean[rooms()];
        reached[from] = true;
        for (int d = 0; d <= rooms(); d++) {
            if (reached[to]) {
                return d;
            }
            boolean[] more = reached.clone();
            for (int a = 0; a < rooms(); a++) {
                for (int b = 0; b < rooms(); b++) {
                    if (reached[a] && way[a][b]) {
                        more[b] = true;
                    }
                }
            }
            reached = more;
        }
        return -1;
    }

    /** A night: where the warden is, AGES at the end of each MINUTE, what is looked at. */
    final class Course {
        int[] where = new int[minutes];
        int[][] ages = new int[minutes][rooms()];
        boolean[][] looked = new boolean[minutes][rooms()];

        int out(int r) {
            for (int t = 0; t < minutes; t++) {
                if (ages[t][r] == 99) {
                    return t;
                }
            }
            return -1;
        }

        int dark() {
            for (int t = 0; t < minutes; t++) {
                for (int r = 0; r < rooms(); r++) {
                    if (ages[t][r] == 99) {
                        return t;
                    }
                }
            }
            return -1;
        }

        int burning(int t) {
            int bits = 0;
            for (int r = 0; r < rooms(); r++) {
                bits |= ages[t][r] == 99 ? 0 : 1 << r;
            }
            return bits;
        }

        int urgent(int t, int[] by) {
            int best = -1;
            for (int r = rooms() - 1; r >= 0; r--) {
                if (ages[t][r] != 99 && (best < 0 || by[r] - ages[t][r] <= by[best] - ages[t][best])) {
                    best = r;
                }
            }
            return best;
        }

        int looks(int r) {
            int n = 0;
            for (int t = 0; t < minutes; t++) {
                n += looked[t][r] ? 1 : 0;
            }
            return n;
        }
    }

    Course course(int mode) {
        return course(mode, law, 0, 31, waits, acts);
    }

    Course course(int mode, int byLaw, int turn, int comers, int[] byWaits, List<int[]> byActs) {
        Course c = new Course();
        for (int t = 0; t < minutes; t++) {
            c.where[t] = place(c, mode, turn, t, byWaits);
            boolean nods = nodsAt(t, byActs);
            boolean nodded = t > 0 && nodsAt(t - 1, byActs);
            for (int r = 0; r < rooms(); r++) {
                boolean guest = guestAt(r, t, comers, byActs);
                boolean he = !nods && c.where[t] == r;
                c.looked[t][r] = guest || he;
                int was = t == 0 ? 0 : c.ages[t - 1][r];
                int is;
                if (was == 99) {
                    is = 99;
                } else if (guest && byLaw != 1) {
                    is = 0;
                } else if (guest || he) {
                    boolean again = t > 0 && !nodded && c.where[t - 1] == r;
                    is = byLaw == 1 ? was / 2 : byLaw == 2 && !again ? was : 0;
                } else {
                    is = byLaw == 3 && !nods && way[c.where[t]][r] ? was : was + 1;
                }
                c.ages[t][r] = is > byWaits[r] ? 99 : is;
            }
        }
        return c;
    }

    private int place(Course c, int mode, int turn, int t, int[] byWaits) {
        if (rooms() == 0) {
            return -1;
        }
        if (t == 0) {
            return round.length > 0 ? round[turn] : 0;
        }
        int here = c.where[t - 1];
        int goal = here;
        if (mode == 0 && round.length > 0) {
            goal = round[(turn + t) % round.length];
            return goal == here || way[here][goal] ? goal : here;
        }
        if (mode == 1) {
            goal = c.urgent(t - 1, byWaits);
            for (int r = 0; goal >= 0 && goal != here && distance(here, goal) >= 0 && r < rooms(); r++) {
                if (way[here][r] && distance(r, goal) + 1 == distance(here, goal)) {
                    return r;
                }
            }
        }
        return here;
    }

    private static boolean nodsAt(int t, List<int[]> byActs) {
        for (int[] act : byActs) {
            if (act[0] == -1 && act[1] == t) {
                return true;
            }
        }
        return false;
    }

    private boolean guestAt(int r, int t, int comers, List<int[]> byActs) {
        for (int v = 0; v < visitors.size(); v++) {
            if ((comers >> v & 1) != 0 && visitors.get(v)[0] == r && visitors.get(v)[1] == t) {
                return true;
            }
        }
        for (int[] act : byActs) {
            if (act[0] == r && act[1] == t) {
                return true;
            }
        }
        return false;
    }

    // ---- KEEP, as the greatest set of STATES each of which has one of the set behind it

    /** AGES after a minute spent in a room; null if a flame of the set goes out. Flames beside the set stay 0. */
    int[] after(int[] ages, int from, int to, int set, int[] byWaits) {
        int[] later = new int[rooms()];
        for (int r = 0; r < rooms(); r++) {
            if ((set >> r & 1) == 0) {
                continue;
            }
            int is = ages[r] + 1;
            if (r == to) {
                is = law == 1 ? ages[r] / 2 : law == 2 && from != to ? ages[r] : 0;
            } else if (law == 3 && way[to][r]) {
                is = ages[r];
            }
            if (is > byWaits[r]) {
                return null;
            }
            later[r] = is;
        }
        return later;
    }

    private int code(int room, int[] ages) {
        int c = room;
        for (int r = 0; r < rooms(); r++) {
            c = c * 8 + ages[r];
        }
        return c;
    }

    private int[] agesOf(int code) {
        int[] ages = new int[rooms()];
        for (int r = rooms() - 1; r >= 0; r--) {
            ages[r] = code & 7;
            code >>= 3;
        }
        return ages;
    }

    boolean[] kept(int set, int[] byWaits) {
        int all = rooms() << 3 * rooms();
        boolean[] good = new boolean[all];
        for (int c = 0; c < all; c++) {
            int[] ages = agesOf(c);
            boolean is = true;
            for (int r = 0; r < rooms(); r++) {
                is &= ages[r] <= ((set >> r & 1) != 0 ? byWaits[r] : 0);
            }
            good[c] = is;
        }
        boolean changed = true;
        while (changed) {
            changed = false;
            for (int c = 0; c < all; c++) {
                if (good[c] && !hasGoodMove(c, good, set, byWaits)) {
                    good[c] = false;
                    changed = true;
                }
            }
        }
        return good;
    }

    private boolean hasGoodMove(int c, boolean[] good, int set, int[] byWaits) {
        int room = c >> 3 * rooms();
        for (int to = 0; to < rooms(); to++) {
            if (to == room || way[room][to]) {
                int[] later = after(agesOf(c), room, to, set, byWaits);
                if (later != null && good[code(to, later)]) {
                    return true;
                }
            }
        }
        return false;
    }

    boolean keeps(int from, int set, int[] byWaits) {
        if (rooms() == 0) {
            return true;
        }
        return kept(set, byWaits)[code(from, after(new int[rooms()], -1, from, set, byWaits))];
    }

    int states() {
        int n = 0;
        if (rooms() > 0) {
            for (boolean good : kept(every(), waits)) {
                n += good ? 1 : 0;
            }
        }
        return n;
    }

    int next() {
        if (rooms() == 0) {
            return -1;
        }
        boolean[] good = kept(every(), waits);
        int[] ages = after(new int[rooms()], -1, start(), every(), waits);
        for (int to = 0; to < rooms(); to++) {
            int[] later = to == start() || way[start()][to] ? after(ages, start(), to, every(), waits) : null;
            if (later != null && good[code(to, later)]) {
                return to;
            }
        }
        return -1;
    }

    int longest() {
        if (rooms() == 0) {
            return 100;
        }
        Set<Integer> now = new HashSet<>();
        now.add(code(start(), after(new int[rooms()], -1, start(), every(), waits)));
        for (int n = 1; n < 100; n++) {
            Set<Integer> then = new HashSet<>();
            for (int c : now) {
                int room = c >> 3 * rooms();
                for (int to = 0; to < rooms(); to++) {
                    int[] later = to == room || way[room][to] ? after(agesOf(c), room, to, every(), waits) : null;
                    if (later != null) {
                        then.add(code(to, later));
                    }
                }
            }
            if (then.isEmpty()) {
                return n;
            }
            now = then;
        }
        return 100;
    }

    int longer(int room) {
        for (int d = 0; waits[room] + d <= 7; d++) {
            int[] tried = waits.clone();
            tried[room] += d;
            if (keeps(start(), every(), tried)) {
                return d;
            }
        }
        return -1;
    }

    int shares(int other) {
        for (int set = 0; set <= every(); set++) {
            if (keeps(start(), set, waits) && keeps(other, every() & ~set, waits)) {
                return set;
            }
        }
        return -1;
    }

    // ---- RINGS, each row of all

    boolean isRing(int[] row) {
        if (rooms() == 0 || row.length == 0) {
            return false;
        }
        int[] ages = new int[rooms()];
        int from = -1;
        for (int t = 0; t < 40 * row.length; t++) {
            int to = row[t % row.length];
            if (from >= 0 && from != to && !way[from][to]) {
                return false;
            }
            ages = after(ages, from, to, every(), waits);
            if (ages == null) {
                return false;
            }
            from = to;
        }
        return true;
    }

    /** All rows of n that are RINGS, in rising order. */
    List<int[]> rings(int n) {
        List<int[]> all = new ArrayList<>();
        long rows = 1;
        for (int i = 0; i < n; i++) {
            rows *= rooms();
        }
        for (long c = 0; c < rows; c++) {
            int[] row = new int[n];
            long rest = c;
            for (int i = n - 1; i >= 0; i--) {
                row[i] = (int) (rest % rooms());
                rest /= rooms();
            }
            if (isRing(row)) {
                all.add(row);
            }
        }
        return all;
    }

    // ---- the GAME

    int gets(int room, int other, int hurries, int otherHurries) {
        int[] tried = waits.clone();
        tried[room] = Math.max(1, tried[room] - hurries);
        tried[other] = Math.max(1, tried[other] - otherHurries);
        return course(1, law, 0, 31, tried, acts).looks(room) - (hurries == 1 ? 3 : 0);
    }

    int comers(long seed) {
        java.math.BigInteger x = java.math.BigInteger.valueOf(seed);
        int bits = 0;
        for (int v = 0; v < visitors.size(); v++) {
            x = x.multiply(java.math.BigInteger.valueOf(1103515245L)).add(java.math.BigInteger.valueOf(12345L))
                .mod(java.math.BigInteger.valueOf(2147483648L));
            int draw = x.divide(java.math.BigInteger.valueOf(65536L)).mod(java.math.BigInteger.TEN).intValue();
            bits |= draw < odds ? 1 << v : 0;
        }
        return bits;
    }
}
