import java.lang.management.ManagementFactory;

/**
 * What calls make. All calls of a run live in one room, so a call makes nothing: what it needs is made with the
 * object, but for the part that KEEP needs, made once.
 */
public final class RoomTest {
    private static final TestKit KIT = new TestKit();
    private static final String FULL = "house law 1 odds 5 minutes 30;room wait 7 worth 1;room wait 7 worth 1;room wait 7 worth 1;"
        + "room wait 7 worth 1;way 0 1;way 0 2;way 0 3;way 1 2;way 1 3;way 2 3;visitor in 0 at 1;visitor in 1 at 2;"
        + "visitor in 2 at 3;visitor in 3 at 4;visitor in 0 at 5;round 0 1 2 3 0 1 2 3 0 1 2 3;";

    public static void main(String[] args) {
        KIT.part("the room");
        all(new LampRounds(), 0);
        LampRounds x = new LampRounds();
        all(x, 1);
        long before = bytesMade();
        int answers = 0;
        for (int i = 0; i < 10; i++) {
            answers += all(x, i);
        }
        // the test's own texts are made in all(); they are some hundred bytes a time
        long made = bytesMade() - before;
        KIT.due("bytes made by ten times all calls: " + made, made < 400000 ? 1 : 0, 1);
        before = bytesMade();
        for (int i = 0; i < 512; i++) {
            answers += x.window(0) + x.send() + x.chance(29, 0) + x.states() + x.rings(10) + x.longer(i & 3) + x.second();
        }
        made = bytesMade() - before;
        KIT.due("bytes made by 512 times the dearest: " + made, made < 20000 ? 1 : 0, 1);
        before = bytesMade();
        LampRounds[] many = new LampRounds[100];
        for (int i = 0; i < 100; i++) {
            many[i] = new LampRounds();
            answers += many[i].count(9);
        }
        made = (bytesMade() - before) / 100;
        KIT.due("bytes of a new object: " + made, made < 40000 ? 1 : 0, 1);
        System.out.println("answers together " + answers);
        KIT.close("RoomTest");
    }

    private static int all(LampRounds x, int i) {
        int sum = TestKit.tell(x, FULL);
        TestKit.row(x, 0);
        sum += x.begins(0) + x.begun(0) + x.window(0) + x.leaves(0) + x.laws(0) + x.by(i & 3) + x.law();
        sum += x.keeps(15) + x.states() + x.next() + x.longest() + x.ring() + x.ringed(0) + x.rings(10) + x.isRing();
        sum += x.most() + x.saved() + x.given() + x.longer(0) + x.density(0) + x.even() + x.shares(1) + x.second();
        sum += x.rests(0, 1) + x.gets(0, 1, 1, 0) + x.chance(3, 0) + x.mean(3, 0) + x.send() + x.visit(0, 3) + x.nods(4);
        sum += x.image(0) + x.undo() + x.anew() + x.back(0) + x.drawn(i, 1) + x.luck(i, 20, 2);
        for (int mode = 0; mode < 2; mode++) {
            sum += x.at(mode, 9) + x.age(mode, 1, 9) + x.left(mode, 1, 9) + x.burns(mode, 9) + x.out(mode, 1) + x.dark(mode);
            sum += x.first(mode) + x.looks(mode, 1) + x.oldest(mode, 1) + x.worth(mode, 9) + x.steps(mode) + x.urgent(mode, 9);
            sum += x.seen(mode) + x.steady(mode) + x.tight(mode, 1);
        }
        return sum;
    }

    private static long bytesMade() {
        com.sun.management.ThreadMXBean bean = (com.sun.management.ThreadMXBean) ManagementFactory.getThreadMXBean();
        return bean.getThreadAllocatedBytes(Thread.currentThread().getId());
    }
}
