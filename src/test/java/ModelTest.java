import java.math.BigInteger;
import java.util.ArrayList;
import java.util.List;
import java.util.Random;

/** Houses by the hundred, each answer against that of the slow Model (promises 6 to 59). */
public final class ModelTest {
    private static final TestKit KIT = new TestKit();

    public static void main(String[] args) {
        Random random = new Random(20261118);
        for (int i = 0; i < 260; i++) {
            Model m = Model.random(random, 4, 1 + random.nextInt(7));
            LampRounds x = TestKit.told(m.text);
            KIT.part(m.text);
            plainNights(x, m);
            acts(x, m, random);
            KIT.part(m.text + " acts " + m.acts.size());
            plainNights(x, m);
            evidence(x, m, random);
            game(x, m);
            chances(x, m, random);
        }
        for (int i = 0; i < 260; i++) {
            Model m = Model.random(random, i % 20 == 0 ? 4 : 3, i % 20 == 0 ? 3 : 5);
            LampRounds x = TestKit.told(m.text);
            KIT.part(m.text);
            keeping(x, m);
            rings(x, m, m.rooms() > 3 ? 5 : m.rooms() > 2 ? 7 : 10);
        }
        for (int i = 0; i < 12; i++) {
            Model m = Model.random(random, 4, 7);
            LampRounds x = TestKit.told(m.text);
            KIT.part(m.text);
            keeping(x, m);
            rings(x, m, 6);
        }
        KIT.close("ModelTest");
    }

    private static void plainNights(LampRounds x, Model m) {
        for (int r = 0; r < m.rooms(); r++) {
            for (int s = 0; s < m.rooms(); s++) {
                KIT.due("far(" + r + ", " + s + ")", x.far(r, s), m.distance(r, s));
            }
        }
        for (int mode = 0; mode < 2; mode++) {
            Model.Course c = m.course(mode);
            int seen = 0;
            int steps = 0;
            int steady = m.every();
            for (int t = 0; t < m.minutes; t++) {
                KIT.due("at(" + mode + ", " + t + ")", x.at(mode, t), c.where[t]);
                KIT.due("burns(" + mode + ", " + t + ")", x.burns(mode, t), c.burning(t));
                KIT.due("urgent(" + mode + ", " + t + ")", x.urgent(mode, t), c.urgent(t, m.waits));
                int worth = 0;
                for (int r = 0; r < m.rooms(); r++) {
                    int age = c.ages[t][r];
                    KIT.due("age(" + mode + ", " + r + ", " + t + ")", x.age(mode, r, t), age);
                    KIT.due("left(" + mode + ", " + r + ", " + t + ")", x.left(mode, r, t), age == 99 ? -1 : m.waits[r] - age);
                    worth += age == 99 ? 0 : m.worths[r];
                }
                KIT.due("worth(" + mode + ", " + t + ")", x.worth(mode, t), worth);
                seen |= m.rooms() > 0 ? 1 << c.where[t] : 0;
                steps += t > 0 && c.where[t] != c.where[t - 1] ? 1 : 0;
                steady &= c.burning(t);
            }
            KIT.due("seen(" + mode + ")", x.seen(mode), seen);
            KIT.due("steps(" + mode + ")", x.steps(mode), steps);
            KIT.due("steady(" + mode + ")", x.steady(mode), steady);
            KIT.due("dark(" + mode + ")", x.dark(mode), c.dark());
            int first = -1;
            for (int r = m.rooms() - 1; r >= 0; r--) {
                first = c.out(r) >= 0 && c.out(r) == c.dark() ? r : first;
                flame(x, m, mode, r, c);
            }
            KIT.due("first(" + mode + ")", x.first(mode), first);
        }
    }

    private static void flame(LampRounds x, Model m, int mode, int r, Model.Course c) {
        int oldest = 0;
        int tight = 99;
        for (int t = 0; t < m.minutes; t++) {
            oldest = Math.max(oldest, c.ages[t][r]);
            tight = c.ages[t][r] == 99 ? tight : Math.min(tight, m.waits[r] - c.ages[t][r]);
        }
        KIT.due("out(" + mode + ", " + r + ")", x.out(mode, r), c.out(r));
        KIT.due("looks(" + mode + ", " + r + ")", x.looks(mode, r), c.looks(r));
        KIT.due("oldest(" + mode + ", " + r + ")", x.oldest(mode, r), oldest);
        KIT.due("tight(" + mode + ", " + r + ")", x.tight(mode, r), tight);
    }

    private static void acts(LampRounds x, Model m, Random random) {
        int n = random.nextInt(7);
        for (int i = 0; i < n; i++) {
            int t = random.nextInt(m.minutes);
            if (m.rooms() == 0 || random.nextBoolean()) {
                m.acts.add(new int[] {-1, t});
                KIT.due("nods(" + t + ")", x.nods(t), m.course(0).burning(t));
            } else {
                int r = random.nextInt(m.rooms());
                m.acts.add(new int[] {r, t});
                KIT.due("visit(" + r + ", " + t + ")", x.visit(r, t), m.course(0).ages[t][r]);
            }
            if (random.nextInt(5) == 0) {
                m.acts.remove(m.acts.size() - 1);
                KIT.due("undo()", x.undo(), m.acts.size());
            }
        }
    }

    private static List<Model.Course> turns(Model m) {
        List<Model.Course> all = new ArrayList<>();
        for (int p = 0; p < m.round.length; p++) {
            all.add(m.course(0, m.law, p, 31, m.waits, m.acts));
        }
        return all;
    }

    private static boolean fits(Model.Course c, long[] row) {
        for (int i = 0; i < row.length; i += 3) {
            if (c.ages[(int) row[i + 1]][(int) row[i]] != row[i + 2]) {
                return false;
            }
        }
        return true;
    }

    private static void evidence(LampRounds x, Model m, Random random) {
        List<Model.Course> all = turns(m);
        for (int trial = 0; trial < 4; trial++) {
            int triples = m.rooms() == 0 ? 0 : random.nextInt(3);
            long[] row = new long[3 * triples];
            for (int i = 0; i < triples; i++) {
                row[3 * i] = random.nextInt(m.rooms());
                row[3 * i + 1] = random.nextInt(m.minutes);
                Model.Course c = m.course(0, random.nextInt(4), m.round.length > 0 ? random.nextInt(m.round.length) : 0, 31,
                    m.waits, m.acts);
                row[3 * i + 2] = c.ages[(int) row[3 * i + 1]][(int) row[3 * i]];
            }
            TestKit.row(x, trial, row);
            askEvidence(x, m, trial, row, all);
        }
    }

    private static void askEvidence(LampRounds x, Model m, int slot, long[] row, List<Model.Course> all) {
        int begins = 0;
        int begun = -1;
        for (int p = all.size() - 1; p >= 0; p--) {
            if (fits(all.get(p), row)) {
                begins++;
                begun = p;
            }
        }
        KIT.due("begins", x.begins(slot), begins);
        KIT.due("begun", x.begun(slot), begun);
        int window = -1;
        int leaves = begins;
        for (int r = 0; r < m.rooms(); r++) {
            for (int t = 0; t < m.minutes; t++) {
                int[] sizes = new int[100];
                int worst = 0;
                for (Model.Course c : all) {
                    if (fits(c, row)) {
                        worst = Math.max(worst, ++sizes[c.ages[t][r]]);
                    }
                }
                if (worst < leaves) {
                    leaves = worst;
                    window = 100 * r + t;
                }
            }
        }
        KIT.due("window", x.window(slot), window);
        KIT.due("leaves", x.leaves(slot), leaves);
        int laws = 0;
        int best = 0;
        for (int law = 0; law < 4; law++) {
            Model.Course c = m.course(0, law, 0, 31, m.waits, m.acts);
            laws |= fits(c, row) ? 1 << law : 0;
            KIT.due("by(" + law + ")", x.by(law), c.dark());
            int bestDark = m.course(0, best, 0, 31, m.waits, m.acts).dark();
            if (bestDark >= 0 && (c.dark() < 0 || c.dark() > bestDark)) {
                best = law;
            }
        }
        KIT.due("laws", x.laws(slot), laws);
        KIT.due("law()", x.law(), best);
    }

    private static void game(LampRounds x, Model m) {
        for (int a = 0; a < m.rooms(); a++) {
            for (int b = 0; b < m.rooms(); b++) {
                if (a == b) {
                    continue;
                }
                int rests = 0;
                for (int h = 0; h < 2; h++) {
                    for (int g = 0; g < 2; g++) {
                        KIT.due("gets(" + a + ", " + b + ", " + h + ", " + g + ")", x.gets(a, b, h, g), m.gets(a, b, h, g));
                        boolean first = m.gets(a, b, 1 - h, g) <= m.gets(a, b, h, g);
                        boolean second = m.gets(b, a, 1 - g, h) <= m.gets(b, a, g, h);
                        rests += first && second ? (h == 0 ? 1 : 2) * (g == 0 ? 1 : 4) : 0;
                    }
                }
                KIT.due("rests(" + a + ", " + b + ")", x.rests(a, b), rests);
            }
        }
    }

    private static void chances(LampRounds x, Model m, Random random) {
        for (int trial = 0; trial < 3; trial++) {
            int t = random.nextInt(m.minutes);
            BigInteger below = BigInteger.ONE;
            for (int v = 0; v < m.visitors.size(); v++) {
                below = below.multiply(BigInteger.TEN);
            }
            BigInteger all = BigInteger.ZERO;
            BigInteger sum = BigInteger.ZERO;
            for (int comers = 0; comers < 1 << m.visitors.size(); comers++) {
                BigInteger weight = BigInteger.ONE;
                for (int v = 0; v < m.visitors.size(); v++) {
                    weight = weight.multiply(BigInteger.valueOf((comers >> v & 1) == 1 ? m.odds : 10 - m.odds));
                }
                int burning = m.course(0, m.law, 0, comers, m.waits, m.acts).burning(t);
                all = burning == m.every() ? all.add(weight) : all;
                sum = sum.add(weight.multiply(BigInteger.valueOf(Integer.bitCount(burning))));
            }
            KIT.due("chance(" + t + ", 0)", x.chance(t, 0), all.divide(all.gcd(below)).intValue());
            KIT.due("chance(" + t + ", 1)", x.chance(t, 1), below.divide(all.gcd(below)).intValue());
            KIT.due("mean(" + t + ", 0)", x.mean(t, 0), sum.divide(sum.gcd(below)).intValue());
            KIT.due("mean(" + t + ", 1)", x.mean(t, 1), below.divide(sum.gcd(below)).intValue());
        }
        draws(x, m, random);
        send(x, m);
    }

    private static void draws(LampRounds x, Model m, Random random) {
        for (int trial = 0; trial < 4; trial++) {
            int seed = trial == 0 ? 2000000000 : random.nextInt(2000000001);
            KIT.due("drawn(" + seed + ", 0)", x.drawn(seed, 0), m.comers(seed));
            KIT.due("drawn(" + seed + ", 1)", x.drawn(seed, 1),
                m.course(0, m.law, 0, m.comers(seed), m.waits, m.acts).dark());
            int n = 1 + random.nextInt(20);
            for (int r = 0; r < m.rooms(); r++) {
                int dying = 0;
                for (int i = 0; i < n; i++) {
                    dying += m.course(0, m.law, 0, m.comers(seed + (long) i), m.waits, m.acts).out(r) >= 0 ? 1 : 0;
                }
                KIT.due("luck(" + seed + ", " + n + ", " + r + ")", x.luck(seed, n, r), dying);
            }
        }
    }

    private static void send(LampRounds x, Model m) {
        int best = m.course(0).dark();
        int answer = -1;
        for (int r = 0; r < m.rooms(); r++) {
            for (int t = 0; t < m.minutes; t++) {
                List<int[]> more = new ArrayList<>(m.acts);
                more.add(new int[] {r, t});
                int dark = m.course(0, m.law, 0, 31, m.waits, more).dark();
                if (best >= 0 && (dark < 0 || dark > best)) {
                    best = dark;
                    answer = 100 * r + t;
                }
            }
        }
        KIT.due("send()", x.send(), answer);
    }

    private static void keeping(LampRounds x, Model m) {
        int saved = 0;
        int given = m.every();
        for (int set = 0; set <= m.every(); set++) {
            boolean kept = m.keeps(m.start(), set, m.waits);
            KIT.due("keeps(" + set + ")", x.keeps(set), kept ? 1 : 0);
            saved = kept && worth(m, set) > worth(m, saved) ? set : saved;
        }
        for (int set = m.every(); set >= 0; set--) {
            if (m.keeps(m.start(), m.every() - set, m.waits) && Integer.bitCount(set) <= Integer.bitCount(given)) {
                given = set;
            }
        }
        KIT.due("states()", x.states(), m.states());
        KIT.due("next()", x.next(), m.next());
        KIT.due("longest()", x.longest(), m.longest());
        KIT.due("saved()", x.saved(), saved);
        KIT.due("most()", x.most(), worth(m, saved));
        KIT.due("given()", x.given(), given);
        int second = -1;
        for (int r = m.rooms() - 1; r >= 0; r--) {
            KIT.due("longer(" + r + ")", x.longer(r), m.longer(r));
            KIT.due("shares(" + r + ")", x.shares(r), m.shares(r));
            second = m.shares(r) >= 0 ? r : second;
        }
        KIT.due("second()", x.second(), second);
        KIT.due("longest() again", x.longest(), m.longest());
        KIT.due("states() again", x.states(), m.states());
        measures(x, m);
    }

    private static void measures(LampRounds x, Model m) {
        BigInteger above = BigInteger.ZERO;
        BigInteger below = BigInteger.ONE;
        int even = 1;
        for (int w : m.waits) {
            BigInteger part = BigInteger.valueOf(w + 1);
            above = above.multiply(part).add(below);
            below = below.multiply(part);
            for (int v : m.waits) {
                even = (v + 1) % (w + 1) != 0 && (w + 1) % (v + 1) != 0 ? 0 : even;
            }
        }
        KIT.due("density(0)", x.density(0), above.divide(above.gcd(below)).intValue());
        KIT.due("density(1)", x.density(1), below.divide(above.gcd(below)).intValue());
        KIT.due("even()", x.even(), even);
    }

    private static int worth(Model m, int set) {
        int sum = 0;
        for (int r = 0; r < m.rooms(); r++) {
            sum += (set >> r & 1) * m.worths[r];
        }
        return sum;
    }

    /** Up to a size all rows are tried; the shortest is compared as far as the Model has gone. */
    private static void rings(LampRounds x, Model m, int most) {
        int shortest = -1;
        for (int n = 1; n <= most; n++) {
            List<int[]> all = m.rooms() == 0 ? new ArrayList<>() : m.rings(n);
            KIT.due("rings(" + n + ")", x.rings(n), all.size());
            if (shortest < 0 && !all.isEmpty()) {
                shortest = n;
                KIT.due("ring()", x.ring(), n);
                for (int i = 0; i < n; i++) {
                    KIT.due("ringed(" + i + ")", x.ringed(i), all.get(0)[i]);
                }
                KIT.due("ringed(" + n + ")", x.ringed(n), -1);
            }
        }
        if (shortest < 0) {
            int ring = x.ring();
            KIT.due("ring() beyond " + most, ring == -1 || ring > most ? 1 : 0, 1);
            KIT.due("ringed(0)", ring == -1 ? x.ringed(0) : -1, -1);
        }
        KIT.due("isRing()", x.isRing(), m.isRing(m.round) ? 1 : 0);
    }
}
