import java.io.IOException;
import java.lang.reflect.Field;
import java.lang.reflect.Method;
import java.lang.reflect.Modifier;
import java.nio.charset.StandardCharsets;
import java.nio.file.Files;
import java.nio.file.Path;
import java.util.Set;
import java.util.TreeSet;

/**
 * The public face, as it stands in the document's block of Java: every line of it stands so in the program, types, names
 * and order of parameters too, and nothing else is public. Arguments: the program's path, the document's.
 */
public final class FaceTest {
    private static final TestKit KIT = new TestKit();

    private FaceTest() {
    }

    public static void main(String[] args) throws IOException {
        String program = Files.readString(Path.of(args.length > 0 ? args[0] : "src/main/java/LampRounds.java"), StandardCharsets.UTF_8);
        String document = Files.readString(Path.of(args.length > 1 ? args[1] : "../shared/DOC.md"), StandardCharsets.UTF_8);
        int from = document.indexOf("```java\n") + 8;
        Set<String> due = new TreeSet<>();
        KIT.part("the face");
        for (String line : document.substring(from, document.indexOf("```", from)).split("\n")) {
            if (line.equals("}")) {
                continue;
            }
            boolean opens = line.endsWith(");");
            String told = opens ? line.substring(0, line.length() - 1) + " {" : line;
            KIT.due(line.trim(), program.contains("\n" + told + "\n") ? 1 : 0, 1);
            if (line.startsWith("    public int ")) {
                due.add(line.substring(15, line.length() - 1).replaceAll("(int|long) \\w+", "$1"));
            }
        }
        KIT.due("65 promises: the constructor and 64 methods", due.size(), 64);
        nothingElse(due);
        promisesTellTheSame(document, due);
        KIT.close("FaceTest");
    }

    private static void nothingElse(Set<String> due) {
        Set<String> is = new TreeSet<>();
        for (Method m : LampRounds.class.getDeclaredMethods()) {
            if (!Modifier.isPrivate(m.getModifiers())) {
                KIT.due(m.getName() + " answers int", m.getReturnType() == int.class ? 1 : 0, 1);
                StringBuilder types = new StringBuilder();
                for (Class<?> type : m.getParameterTypes()) {
                    types.append(types.length() > 0 ? ", " : "").append(type.getName());
                }
                is.add(m.getName() + "(" + types + ")");
            }
        }
        KIT.due("methods that are not private: " + is, is.equals(due) ? 1 : 0, 1);
        int fields = 0;
        for (Field f : LampRounds.class.getDeclaredFields()) {
            fields += Modifier.isPrivate(f.getModifiers()) ? 0 : 1;
        }
        KIT.due("constants", fields, 1);
        KIT.due("NONE", LampRounds.NONE, -1);
        KIT.due("constructors", LampRounds.class.getDeclaredConstructors().length, 1);
    }

    /** The line of each promise is one of the face's. */
    private static void promisesTellTheSame(String document, Set<String> due) {
        Set<String> told = new TreeSet<>();
        for (String line : document.split("\n")) {
            if (line.startsWith("`int ")) {
                told.add(line.substring(5, line.indexOf("`:")).replaceAll("(int|long) \\w+", "$1"));
            }
        }
        KIT.due("lines of promises", told.equals(due) ? 1 : 0, 1);
    }
}
