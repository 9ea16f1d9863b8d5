import java.io.IOException;
import java.lang.reflect.Constructor;
import java.lang.reflect.Field;
import java.lang.reflect.Method;
import java.lang.reflect.Modifier;
import java.nio.charset.StandardCharsets;
import java.nio.file.Files;
import java.nio.file.Path;
import java.util.ArrayList;
import java.util.HashMap;
import java.util.List;
import java.util.Map;
import java.util.Set;
import java.util.TreeSet;
import java.util.regex.Matcher;
import java.util.regex.Pattern;

/** The rules of LANGUAGE.md, as far as the text and the compiled class tell; the program's path is the argument. */
public final class RulesTest {
    private static final TestKit KIT = new TestKit();
    private static final String FACE = "feed 5,end 1,house 0,fault 1,room 2,doors 1,far 2,round 1,at 2,age 3,left 3,burns 2,"
        + "out 2,dark 1,first 1,looks 2,oldest 2,worth 2,steps 1,urgent 2,seen 1,steady 1,tight 2,keeps 1,states 0,next 0,"
        + "longest 0,ring 0,ringed 1,rings 1,isRing 0,most 0,saved 0,given 0,longer 1,density 1,even 0,shares 1,second 0,"
        + "begins 1,begun 1,window 1,leaves 1,laws 1,by 1,law 0,rests 2,gets 4,chance 2,mean 2,send 0,visit 2,nods 1,undo 0,"
        + "anew 0,drawn 2,luck 3,rate 2,count 1,image 1,back 1,row 3,write 3,paste 5";

    public static void main(String[] args) throws IOException {
        face();
        Path source = Path.of(args.length > 0 ? args[0] : "src/main/java/LampRounds.java");
        words(Files.readString(source, StandardCharsets.ISO_8859_1));
        classes();
        methodLengths(Files.readAllLines(source, StandardCharsets.ISO_8859_1));
        KIT.close("RulesTest");
    }

    private static void face() {
        KIT.part("rule 1");
        Class<?> c = LampRounds.class;
        KIT.due("public final", c.getModifiers(), Modifier.PUBLIC | Modifier.FINAL);
        Set<String> due = new TreeSet<>(List.of(FACE.split(",")));
        Set<String> is = new TreeSet<>();
        for (Method m : c.getDeclaredMethods()) {
            if (Modifier.isPrivate(m.getModifiers())) {
                KIT.due("private " + m.getName(), due.stream().anyMatch(d -> d.startsWith(m.getName() + " ")) ? 1 : 0, 0);
            } else {
                is.add(m.getName() + " " + m.getParameterCount());
                KIT.due(m.getName() + " is public", m.getModifiers(), Modifier.PUBLIC);
                KIT.due(m.getName() + " answers int", m.getReturnType() == int.class ? 1 : 0, 1);
            }
        }
        KIT.due("the face " + is, is.equals(due) ? 1 : 0, 1);
        for (Constructor<?> k : c.getDeclaredConstructors()) {
            KIT.due("constructor", k.getModifiers() == Modifier.PUBLIC && k.getParameterCount() == 0 ? 1 : 0, 1);
        }
        for (Field f : c.getDeclaredFields()) {
            boolean isNone = f.getName().equals("NONE") && Modifier.isPublic(f.getModifiers());
            KIT.due("field " + f.getName(), isNone || Modifier.isPrivate(f.getModifiers()) ? 1 : 0, 1);
        }
    }

    private static void classes() {
        KIT.part("rules 2, 5, 11");
        Set<String> names = new TreeSet<>();
        for (String part : FACE.split(",")) {
            names.add(part.split(" ")[0]);
        }
        Class<?>[] inside = LampRounds.class.getDeclaredClasses();
        KIT.due("classes", inside.length + 1 <= 12 ? 1 : 0, 1);
        List<Class<?>> all = new ArrayList<>(List.of(inside));
        for (Class<?> c : inside) {
            KIT.due(c.getName() + " is static, private", Modifier.isStatic(c.getModifiers()) && Modifier.isPrivate(c.getModifiers()) ? 1 : 0, 1);
            KIT.due(c.getName() + " has none inside", c.getDeclaredClasses().length, 0);
            for (Method m : c.getDeclaredMethods()) {
                KIT.due(c.getName() + "." + m.getName(), names.contains(m.getName()) ? 1 : 0, 0);
            }
        }
        all.add(LampRounds.class);
        for (Class<?> c : all) {
            int fields = 0;
            for (Field f : c.getDeclaredFields()) {
                if (Modifier.isStatic(f.getModifiers())) {
                    KIT.due("static " + f.getName(), Modifier.isFinal(f.getModifiers()) ? 1 : 0, 1);
                } else {
                    fields++;
                }
            }
            KIT.due("fields of " + c.getName(), fields <= 20 ? 1 : 0, 1);
            for (Method m : c.getDeclaredMethods()) {
                KIT.due("parameters of " + m.getName(), m.getParameterCount() <= 7 ? 1 : 0, 1);
            }
        }
    }

    private static String withoutComments(String text) {
        return text.replaceAll("(?s)/\\*.*?\\*/", " ").replaceAll("//[^\n]*", " ");
    }

    private static void words(String text) {
        KIT.part("rules 3, 4, 6, 13");
        for (int i = 0; i < text.length(); i++) {
            if (text.charAt(i) > 126) {
                KIT.due("sign at " + i, text.charAt(i), 126);
            }
        }
        String code = withoutComments(text).replaceAll("\"[^\"\n]*\"", "\"\"");
        String[] refused = {"throw", "throws", "try", "catch", "finally", "synchronized", "assert", "import", "package", "protected",
            "native", "volatile", "transient", "Object", "System\\.(?!arraycopy)\\w+", "Thread", "Random", "hashCode", "toString",
            "getClass", "NaN", "double", "float", "var", "\\w+Exact", "->", "::", "\\[\\]\\[\\]\\["};
        for (String word : refused) {
            String search = Character.isLetter(word.charAt(0)) ? "\\b" + word + "\\b" : word;
            KIT.due("the word " + word, Pattern.compile(search).matcher(code).find() ? 1 : 0, 0);
        }
        Matcher calls = Pattern.compile("\\b(Integer|Long|Math|Arrays|String|StringBuilder|List)\\.(\\w+)").matcher(code);
        Set<String> fine = Set.of("Integer.bitCount", "Math.min", "Math.max");
        while (calls.find()) {
            KIT.due("the library's " + calls.group(), fine.contains(calls.group()) ? 1 : 0, 1);
        }
        KIT.due("new in few places", count("\\bnew\\b", code) <= 60 ? 1 : 0, 1);
    }

    private static int count(String search, String code) {
        Matcher m = Pattern.compile(search).matcher(code);
        int n = 0;
        while (m.find()) {
            n++;
        }
        return n;
    }

    /** Methods stand at four or eight blanks, and end with a brace at the same ones. */
    private static void methodLengths(List<String> lines) {
        KIT.part("rule 11");
        Map<Integer, Integer> open = new HashMap<>();
        Pattern head = Pattern.compile("^( {4}| {8})[\\w<].*\\) \\{$");
        for (int i = 0; i < lines.size(); i++) {
            Matcher m = head.matcher(lines.get(i));
            if (m.matches() && !lines.get(i).contains(" class ")) {
                open.put(m.group(1).length(), i);
            } else if (lines.get(i).equals("    }") || lines.get(i).equals("        }")) {
                Integer from = open.remove(lines.get(i).length() - 1);
                KIT.due("method that ends at line " + (i + 1), from == null || i - from < 60 ? 1 : 0, 1);
            }
        }
    }
}
