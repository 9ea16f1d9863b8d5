import java.lang.reflect.Method;
import java.lang.reflect.Modifier;
import java.util.ArrayList;
import java.util.Arrays;
import java.util.Comparator;
import java.util.List;
import java.util.Random;
import java.util.Set;

/**
 * An object used for 512 calls of all kinds answers as a new one that was brought to the same state: nothing of an earlier
 * HOUSE, of acts taken back, or of what was asked stays behind. What the state is due to be is told here by a few plain rows.
 */
public final class UsedTest {
    private static final TestKit KIT = new TestKit();
    private static final int CALLS = 512;
    private static final Set<String> CHANGING = Set.of("feed", "end", "house", "fault", "visit", "nods", "undo", "anew", "rate",
        "image", "back", "row", "write", "paste");

    private final Random random;
    private final LampRounds used = new LampRounds();
    private final List<Method> asking = new ArrayList<>();
    private final State[] images = new State[3];
    private final long[][] rows = new long[4][];
    private final int[] widths = new int[4];
    private State now = new State();
    private int fault = 0;
    private int faultPlace = -1;
    private int calls = 0;

    /** A HOUSE and acts; an act is a ROOM (-1: a nod) and a MINUTE. */
    private static final class State {
        Model model = null;
        int[] worths = new int[4];
        List<int[]> acts = new ArrayList<>();

        State copy() {
            State s = new State();
            s.model = model;
            s.worths = worths.clone();
            s.acts = new ArrayList<>(acts);
            return s;
        }

        int rooms() {
            return model == null ? 0 : model.rooms();
        }

        int minutes() {
            return model == null ? 0 : model.minutes;
        }
    }

    private UsedTest(long seed) {
        random = new Random(seed);
        for (Method m : LampRounds.class.getDeclaredMethods()) {
            if (Modifier.isPublic(m.getModifiers()) && !CHANGING.contains(m.getName())) {
                asking.add(m);
            }
        }
        asking.sort(Comparator.comparing(Method::getName));
    }

    public static void main(String[] args) throws ReflectiveOperationException {
        for (int seed = 0; seed < 120; seed++) {
            KIT.part("run " + seed);
            new UsedTest(seed).run();
        }
        KIT.close("UsedTest");
    }

    private void run() throws ReflectiveOperationException {
        while (calls < CALLS - 30) {
            switch (random.nextInt(24)) {
                case 0 -> tell();
                case 1 -> tellWrongly();
                case 2, 3 -> visit();
                case 4 -> nod();
                case 5 -> undo();
                case 6 -> rate();
                case 7 -> image();
                case 8 -> back();
                case 9 -> row();
                case 10, 11 -> write();
                case 12 -> paste();
                default -> ask();
            }
        }
    }

    private void due(String call, int got, int want) {
        calls++;
        KIT.due("call " + calls + ", " + call, got, want);
    }

    private static void doActs(LampRounds x, List<int[]> acts) {
        for (int[] act : acts) {
            if (act[0] < 0) {
                x.nods(act[1]);
            } else {
                x.visit(act[0], act[1]);
            }
        }
    }

    private LampRounds anotherSuch() {
        LampRounds x = new LampRounds();
        if (now.model != null) {
            TestKit.tell(x, now.model.text);
            for (int r = 0; r < now.rooms(); r++) {
                x.rate(r, now.worths[r]);
            }
            doActs(x, now.acts);
        }
        for (int slot = 0; slot < 4; slot++) {
            if (rows[slot] != null) {
                x.row(slot, widths[slot], rows[slot].length);
                for (int i = 0; i < rows[slot].length; i++) {
                    x.write(slot, i, rows[slot][i]);
                }
            }
        }
        return x;
    }

    private int number() {
        int kind = random.nextInt(8);
        return kind == 0 ? random.nextInt(34) - 2 : kind < 3 ? random.nextInt(16) : random.nextInt(3);
    }

    private void ask() throws ReflectiveOperationException {
        Method m = asking.get(random.nextInt(asking.size()));
        Object[] values = new Object[m.getParameterCount()];
        for (int i = 0; i < values.length; i++) {
            values[i] = number();
        }
        due(m.getName() + Arrays.toString(values), (Integer) m.invoke(used, values), (Integer) m.invoke(anotherSuch(), values));
    }

    /** Up to 22 calls, as no text has more than 400 bytes. */
    private int put(String text) {
        calls += (text.length() + 19) / 20 + 2;
        return TestKit.tell(used, text);
    }

    private void tell() {
        Model m = null;
        for (int i = 0; i < 100 && (m == null || m.text.length() > 400); i++) {
            m = random.nextInt(12) == 0 ? new Model() : Model.random(random, 4, 1 + random.nextInt(7));
        }
        boolean none = m == null || m.text.isEmpty();
        due("house()", put(m == null ? "" : m.text), none ? 0 : lines(m.text));
        now = new State();
        now.model = none ? null : m;
        for (int r = 0; r < now.rooms(); r++) {
            now.worths[r] = m.worths[r];
        }
        fault = 0;
        faultPlace = -1;
    }

    private static int lines(String text) {
        return (int) text.chars().filter(sign -> sign == ';').count();
    }

    private void tellWrongly() {
        String text = "house law 2 odds 3 minutes 4;room wait 1 worth 1;way 0 0;";
        due("house() of " + text, put(text), -4);
        fault = 2;
        faultPlace = text.lastIndexOf('0');
        due("fault(0)", used.fault(0), fault);
        due("fault(1)", used.fault(1), faultPlace);
        due("count(9)", used.count(9), 0);
    }

    private void visit() {
        int r = random.nextInt(5) - random.nextInt(2);
        int minute = random.nextInt(Math.max(1, now.minutes())) + random.nextInt(8) / 7;
        boolean such = r >= 0 && r < now.rooms() && minute < now.minutes();
        int answer = used.visit(r, minute);
        if (such && now.acts.size() < 30) {
            now.acts.add(new int[] {r, minute});
            due("visit(" + r + ", " + minute + ")", answer, anotherSuch().age(0, r, minute));
        } else {
            due("visit(" + r + ", " + minute + ")", answer, such ? -5 : -2);
        }
    }

    private void nod() {
        int minute = random.nextInt(Math.max(1, now.minutes())) + random.nextInt(8) / 7;
        int answer = used.nods(minute);
        if (minute < now.minutes() && now.acts.size() < 30) {
            now.acts.add(new int[] {-1, minute});
            due("nods(" + minute + ")", answer, anotherSuch().burns(0, minute));
        } else {
            due("nods(" + minute + ")", answer, minute < now.minutes() ? -5 : -2);
        }
    }

    private void undo() {
        int size = now.acts.size();
        if (random.nextInt(4) == 0) {
            now.acts.clear();
            due("anew()", used.anew(), now.model == null ? -2 : size);
            return;
        }
        if (size > 0) {
            now.acts.remove(size - 1);
        }
        due("undo()", used.undo(), now.model == null ? -2 : size == 0 ? -5 : size - 1);
        due("fault(0) still", used.fault(0), fault);
        due("fault(1) still", used.fault(1), faultPlace);
    }

    private void rate() {
        int r = random.nextInt(5);
        int n = random.nextInt(102) - 1;
        int want = r >= now.rooms() || n < 0 || n > 99 ? -2 : !now.acts.isEmpty() ? -5 : now.worths[r];
        due("rate(" + r + ", " + n + ")", used.rate(r, n), want);
        if (want >= 0) {
            now.worths[r] = n;
        }
    }

    private void image() {
        int k = random.nextInt(5) - 1;
        due("image(" + k + ")", used.image(k), k < 0 || k > 2 ? -2 : 0);
        if (k >= 0 && k < 3) {
            images[k] = now.copy();
        }
    }

    private void back() {
        int k = random.nextInt(5) - 1;
        int want = k < 0 || k > 2 ? -2 : images[k] == null ? -6 : 0;
        due("back(" + k + ")", used.back(k), want);
        if (want == 0) {
            now = images[k].copy();
        }
    }

    private void row() {
        int slot = random.nextInt(5);
        int width = random.nextInt(9) / 2;
        int n = random.nextInt(3) == 0 ? random.nextInt(64) - 2 : 3 * random.nextInt(3);
        int want = slot > 3 || width > 3 || n > 60 ? -2 : n < 0 ? -3 : 0;
        due("row(" + slot + ", " + width + ", " + n + ")", used.row(slot, width, n), want);
        if (want == 0) {
            rows[slot] = new long[n];
            widths[slot] = width;
        }
    }

    private void write() {
        int slot = random.nextInt(4);
        int length = rows[slot] == null ? 3 : rows[slot].length;
        int i = random.nextInt(length + 2) - random.nextInt(2);
        long v = random.nextInt(4) == 0 ? random.nextLong() : random.nextInt(5);
        int want = rows[slot] == null ? -6 : i < 0 || i >= length ? -7 : 0;
        due("write(" + slot + ", " + i + ", " + v + ")", used.write(slot, i, v), want);
        if (want == 0) {
            int cut = 64 - (8 << widths[slot]);
            rows[slot][i] = v << cut >> cut;
        }
    }

    private void paste() {
        int slot = random.nextInt(5);
        int to = random.nextInt(4);
        int i = random.nextInt(4) - random.nextInt(2);
        int k = random.nextInt(4) - random.nextInt(2);
        int n = random.nextInt(5) - random.nextInt(2);
        int want = slot > 3 ? -2 : rows[slot] == null || rows[to] == null ? -6 : widths[slot] != widths[to] ? -8
            : i < 0 || k < 0 || n < 0 || i + n > rows[slot].length || k + n > rows[to].length ? -7 : 0;
        due("paste(" + slot + ", " + i + ", " + to + ", " + k + ", " + n + ")", used.paste(slot, i, to, k, n), want);
        if (want == 0) {
            System.arraycopy(rows[slot].clone(), i, rows[to], k, n);
        }
    }
}
