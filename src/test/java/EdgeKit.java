import java.io.IOException;
import java.nio.charset.StandardCharsets;
import java.nio.file.Files;
import java.nio.file.Path;
import java.util.ArrayList;
import java.util.LinkedHashMap;
import java.util.List;
import java.util.Map;
import java.util.function.IntSupplier;

/**
 * What the tests of boundary cases share. Each test names the sentence that it is a test of, by its own words; they must
 * stand in the document, and at the end no clause of it may be left without a test.
 */
final class EdgeKit {
    private static final int SHOWN = 60;

    private final Map<String, String> sections = new LinkedHashMap<>();
    private final Map<String, boolean[]> quoted = new LinkedHashMap<>();
    private String part = "";
    private int askedOfPart = 1;
    private int asked = 0;
    private int wrong = 0;
    private int sentences = 0;

    EdgeKit(Path document) throws IOException {
        String key = "";
        boolean block = false;
        for (String line : Files.readAllLines(document, StandardCharsets.UTF_8)) {
            if (line.startsWith("## ")) {
                key = line.startsWith("## Promise ") ? line.substring(11, line.indexOf(':')) : "";
            } else if (line.startsWith("```")) {
                block = line.equals("```text");
                key = block ? "text" : key;
            } else if (line.matches("[IVX]+\\. .*")) {
                key = line.substring(0, line.indexOf('.'));
                add(key, line.substring(line.indexOf(' ') + 1));
            } else if (!key.isEmpty() && !line.isBlank()) {
                add(key, line.trim());
            }
        }
        for (String section : sections.keySet()) {
            quoted.put(section, new boolean[sections.get(section).length()]);
        }
    }

    /** A promise's own line in Java isn't a sentence. */
    private void add(String key, String words) {
        String spoken = words.startsWith("`") ? words.substring(words.indexOf("`: ") + 3) : words;
        sections.merge(key, spoken, (a, b) -> a + " " + b);
    }

    void promise(int number, String words) {
        sentence(String.valueOf(number), words);
    }

    /** Of Terms: a numeral I to IX, or "text" for the block behind I. */
    void term(String key, String words) {
        sentence(key, words);
    }

    private void sentence(String key, String words) {
        closePart();
        part = key + " '" + words + "'";
        sentences++;
        String section = sections.getOrDefault(key, "");
        int from = section.indexOf(words);
        askedOfPart = 0;
        if (from < 0) {
            fail("the document does not say so");
            return;
        }
        boolean[] marks = quoted.get(key);
        for (int i = from; i < from + words.length(); i++) {
            marks[i] = true;
        }
    }

    private void closePart() {
        if (askedOfPart == 0) {
            fail("nothing was asked");
        }
        askedOfPart = 1;
    }

    private void fail(String what) {
        wrong++;
        if (wrong <= SHOWN) {
            System.out.println(part + ": " + what);
        }
    }

    void due(String call, long got, long want) {
        asked++;
        askedOfPart++;
        if (got != want) {
            fail(call + " answered " + got + ", due is " + want);
        }
    }

    /** A refused call: its answer, and that it leaves all as it was. */
    void refused(LampRounds x, String call, IntSupplier answer, int want) {
        String before = state(x);
        due(call, answer.getAsInt(), want);
        String after = state(x);
        askedOfPart++;
        if (!before.equals(after)) {
            fail(call + " changed\n  " + before + "\n  " + after);
        }
    }

    /** What some ninety calls, none of which changes anything, tell of an object. */
    static String state(LampRounds x) {
        List<Integer> told = new ArrayList<>();
        for (int what = 0; what <= 10; what++) {
            told.add(x.count(what));
        }
        told.add(x.fault(0));
        told.add(x.fault(1));
        for (int r = 0; r < 4; r++) {
            told.addAll(List.of(x.room(r, 0), x.room(r, 1), x.doors(r), x.out(0, r), x.out(1, r), x.looks(0, r), x.oldest(0, r)));
            told.addAll(List.of(x.begins(r), x.laws(r), x.write(r, -1, 1), x.round(r), x.round(4 + r), x.round(8 + r)));
        }
        told.addAll(List.of(x.steps(0), x.steps(1), x.seen(1), x.dark(0), x.send(), x.drawn(7, 0), x.chance(0, 0)));
        return told.toString();
    }

    void close(String name) {
        closePart();
        for (String key : sections.keySet()) {
            part = key;
            lookForClausesWithoutTest(sections.get(key), quoted.get(key));
        }
        System.out.println(name + ": " + sentences + " sentences, " + asked + " answers, " + wrong + " wrong");
        if (wrong != 0 || asked == 0) {
            System.exit(1);
        }
    }

    /** A clause ends with a stop or a semicolon behind a word; the two stops of '0 .. 3' end none. */
    private void lookForClausesWithoutTest(String section, boolean[] marks) {
        boolean found = false;
        int from = 0;
        for (int i = 0; i < section.length(); i++) {
            found |= marks[i];
            char sign = section.charAt(i);
            boolean last = i + 1 == section.length();
            boolean stop = (sign == '.' || sign == ';') && i > 0 && " .".indexOf(section.charAt(i - 1)) < 0;
            if (last || stop && section.charAt(i + 1) == ' ') {
                String clause = section.substring(from, i + 1).trim();
                if (!found && !clause.isEmpty()) {
                    fail("no test is of: " + clause);
                }
                found = false;
                from = i + 1;
            }
        }
    }
}
