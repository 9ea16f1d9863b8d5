import java.lang.reflect.InvocationTargetException;
import java.lang.reflect.Method;
import java.util.Arrays;
import java.util.Comparator;
import java.util.Random;

/** Runs of 512 calls with any arguments: none throws, and the same calls on another object answer the same. */
public final class CallFuzzTest {
    private static final TestKit KIT = new TestKit();
    private static final long[] EDGES = {Integer.MIN_VALUE, Integer.MAX_VALUE, -1, -2, 100, 2000000000, 2000000001, 64, 500,
        1 << 30, -1000};

    public static void main(String[] args) throws IllegalAccessException {
        Method[] methods = LampRounds.class.getDeclaredMethods();
        methods = Arrays.stream(methods).filter(m -> java.lang.reflect.Modifier.isPublic(m.getModifiers()))
            .sorted(Comparator.comparing(Method::getName)).toArray(Method[]::new);
        Random random = new Random(512);
        for (int run = 0; run < 300; run++) {
            LampRounds x = new LampRounds();
            LampRounds y = new LampRounds();
            for (int i = 0; i < 480; i++) {
                if (random.nextInt(40) == 0) {
                    String text = Model.random(random, 4, 7).text;
                    text = random.nextInt(6) == 0 ? text.substring(0, random.nextInt(text.length())) : text;
                    KIT.part("run " + run);
                    KIT.due("house", TestKit.tell(x, text), TestKit.tell(y, text));
                    continue;
                }
                Method m = methods[random.nextInt(methods.length)];
                if (m.getName().equals("house") && random.nextInt(20) > 0) {
                    continue;
                }
                call(m, arguments(m, random), x, y);
            }
        }
        KIT.close("CallFuzzTest");
    }

    private static Object[] arguments(Method m, Random random) {
        Object[] values = new Object[m.getParameterCount()];
        for (int i = 0; i < values.length; i++) {
            long v = random.nextInt(10) == 0 ? EDGES[random.nextInt(EDGES.length)] : random.nextInt(random.nextBoolean() ? 3 : 13);
            if (m.getParameterTypes()[i] == long.class) {
                values[i] = random.nextInt(10) == 0 ? random.nextLong() : v;
            } else {
                values[i] = (int) v;
            }
        }
        return values;
    }

    private static void call(Method m, Object[] values, LampRounds x, LampRounds y) throws IllegalAccessException {
        KIT.part(m.getName() + Arrays.toString(values));
        try {
            KIT.due("the same", (int) m.invoke(x, values), (int) m.invoke(y, values));
        } catch (InvocationTargetException thrown) {
            KIT.due("thrown: " + thrown.getCause(), 1, 0);
        }
    }
}
