import java.nio.charset.StandardCharsets;

/** What the tests share: telling a house as a text, and a tally of answers that are not as due. */
final class TestKit {
    private int asked = 0;
    private int wrong = 0;
    private String part = "";

    void part(String name) {
        part = name;
    }

    void due(String call, long got, long want) {
        asked++;
        if (got != want) {
            wrong++;
            if (wrong <= 40) {
                System.out.println(part + ": " + call + " answered " + got + ", due is " + want);
            }
        }
    }

    /** Ends the test with exit code 1 if an answer was not as due, or nothing was asked. */
    void close(String name) {
        System.out.println(name + ": " + asked + " answers, " + wrong + " wrong");
        if (wrong != 0 || asked == 0) {
            System.exit(1);
        }
    }

    /** Puts a text on the TAPE, in place of what it had; the last twenty bytes are filled up and cut again. */
    static void write(LampRounds x, String text) {
        x.end(0);
        byte[] bytes = text.getBytes(StandardCharsets.ISO_8859_1);
        for (int from = 0; from < bytes.length; from += 20) {
            int[] words = new int[5];
            for (int i = 0; i < 20; i++) {
                int b = from + i < bytes.length ? bytes[from + i] & 255 : 0;
                words[i / 4] = words[i / 4] << 8 | b;
            }
            x.feed(words[0], words[1], words[2], words[3], words[4]);
        }
        x.end(bytes.length);
    }

    static int tell(LampRounds x, String text) {
        write(x, text);
        return x.house();
    }

    static LampRounds told(String text) {
        LampRounds x = new LampRounds();
        int lines = tell(x, text);
        if (lines < 0) {
            throw new IllegalStateException("fault " + x.fault(0) + " at " + x.fault(1) + " of: " + text);
        }
        return x;
    }

    /** A row of eight-byte numbers in a SLOT. */
    static void row(LampRounds x, int slot, long... numbers) {
        x.row(slot, 3, numbers.length);
        for (int i = 0; i < numbers.length; i++) {
            x.write(slot, i, numbers[i]);
        }
    }
}
