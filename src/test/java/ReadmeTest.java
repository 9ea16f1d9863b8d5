import java.io.IOException;
import java.lang.reflect.Method;
import java.lang.reflect.Modifier;
import java.nio.charset.StandardCharsets;
import java.nio.file.Files;
import java.nio.file.Path;
import java.util.List;
import java.util.regex.Matcher;
import java.util.regex.Pattern;

/** README.md: its house, each call of its table with the answer told there, and that no call of the face is left out. */
public final class ReadmeTest {
    private static final TestKit KIT = new TestKit();
    private static final Pattern ROW = Pattern.compile("^\\| `(\\w+)\\((.*)\\)` \\| (-?\\d+) \\|.*$");

    private ReadmeTest() {
    }

    public static void main(String[] args) throws IOException, ReflectiveOperationException {
        List<String> lines = Files.readAllLines(Path.of("README.md"), StandardCharsets.UTF_8);
        table(lines);
        everyCallIsNamed(String.join("\n", lines));
        KIT.close("ReadmeTest");
    }

    private static String block(List<String> lines, String language) {
        StringBuilder text = new StringBuilder();
        int from = lines.indexOf("```" + language);
        for (int i = from + 1; from >= 0 && i < lines.size() && !lines.get(i).equals("```"); i++) {
            text.append(lines.get(i)).append("\n");
        }
        return text.toString();
    }

    private static void table(List<String> lines) throws ReflectiveOperationException {
        KIT.part("the table");
        LampRounds x = TestKit.told(block(lines, "text"));
        int rows = 0;
        for (String line : lines) {
            Matcher row = ROW.matcher(line);
            if (row.matches()) {
                rows++;
                KIT.due(row.group(1) + "(" + row.group(2) + ")", call(x, row.group(1), row.group(2)), Integer.parseInt(row.group(3)));
            }
        }
        KIT.due("some thirty rows", rows >= 30 ? 1 : 0, 1);
    }

    private static int call(LampRounds x, String name, String told) throws ReflectiveOperationException {
        String[] numbers = told.isEmpty() ? new String[0] : told.split(", ");
        for (Method m : LampRounds.class.getMethods()) {
            if (m.getName().equals(name) && m.getParameterCount() == numbers.length) {
                Object[] values = new Object[numbers.length];
                for (int i = 0; i < numbers.length; i++) {
                    boolean wide = m.getParameterTypes()[i] == long.class;
                    values[i] = wide ? (Object) Long.valueOf(numbers[i]) : Integer.valueOf(numbers[i]);
                }
                return (Integer) m.invoke(x, values);
            }
        }
        throw new IllegalStateException("no such call: " + name);
    }

    private static void everyCallIsNamed(String text) {
        KIT.part("the list of calls");
        String list = text.substring(text.indexOf("Which calls there are:"));
        for (Method m : LampRounds.class.getDeclaredMethods()) {
            if (Modifier.isPublic(m.getModifiers())) {
                KIT.due(m.getName() + " is named", list.contains("`" + m.getName() + "`") ? 1 : 0, 1);
            }
        }
    }
}
