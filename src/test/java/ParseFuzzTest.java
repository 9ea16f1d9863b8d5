import java.util.ArrayList;
import java.util.HashMap;
import java.util.List;
import java.util.Map;
import java.util.Random;

/** Texts of houses with signs changed, cut or put in: FAULT and place against a second reader (promises 4, 5). */
public final class ParseFuzzTest {
    private static final TestKit KIT = new TestKit();
    private static final String[] PIECES = {"house", "law", "odds", "minutes", "room", "wait", "worth", "way", "visitor", "in",
        "at", "round", ";", " ", "\n", "0", "1", "2", "3", "4", "7", "8", "10", "11", "29", "30", "31", "99", "100", "x", "-", "A",
        "00", "12345678901234567890", "room wait 1 worth 1;", "way 0 1;", "visitor in 0 at 0;", "round 0;", " 0 0 0 0 0 0", "\t"};

    private static final String[] LINES = {"room wait 1 worth 1;", "way 0 1;", "visitor in 0 at 0;", "round 0;",
        "round 0 0 0 0 0 0 0 0 0 0 0 0 0;", "round 0 0 0 0 0 0 0 0 0 0 0 0 4;"};

    public static void main(String[] args) {
        Random random = new Random(65);
        Map<Integer, Integer> kinds = new HashMap<>();
        for (int i = 0; i < 40000; i++) {
            String text = Model.random(random, 4, 7).text;
            int changes = random.nextInt(4);
            for (int c = 0; c < changes; c++) {
                text = changed(text, random);
            }
            text = text.length() > 500 ? text.substring(0, 500) : text;
            KIT.part(text.replace('\n', '/'));
            int[] due = new Second(text).fault();
            LampRounds x = new LampRounds();
            KIT.due("house()", TestKit.tell(x, text), due[0] == 0 ? due[2] : -4);
            KIT.due("fault(0)", x.fault(0), due[0]);
            KIT.due("fault(1)", x.fault(1), due[1]);
            kinds.merge(due[0], 1, Integer::sum);
        }
        for (int fault = 0; fault <= 3; fault++) {
            KIT.part("enough of each FAULT: " + kinds);
            KIT.due("FAULT " + fault, kinds.getOrDefault(fault, 0) > 400 ? 1 : 0, 1);
        }
        KIT.close("ParseFuzzTest");
    }

    private static String changed(String text, Random random) {
        int at = random.nextInt(text.length() + 1);
        int to = Math.min(text.length(), at + random.nextInt(4));
        String piece = PIECES[random.nextInt(PIECES.length)];
        int lineEnd = text.indexOf(';', at) + 1;
        switch (random.nextInt(7)) {
            case 0:
                return text.substring(0, at);
            case 1:
                return text.substring(0, at) + text.substring(to);
            case 2:
                return text.substring(0, at) + piece + text.substring(at);
            case 3:
                return text.substring(0, lineEnd) + piece + text.substring(lineEnd);
            case 4:
            case 5:
                String line = LINES[random.nextInt(LINES.length)].repeat(1 + random.nextInt(4));
                return lineEnd == 0 ? text + line : text.substring(0, lineEnd) + line + text.substring(lineEnd);
            default:
                return text.substring(0, at) + piece + text.substring(to);
        }
    }

    /** Finds every FAULT of each kind that can be told at a TOKEN, from a table of what each LINE's TOKENS are. */
    private static final class Second {
        private final List<String> tokens = new ArrayList<>();
        private final List<Integer> places = new ArrayList<>();
        private int at = 0;

        Second(String text) {
            java.util.regex.Matcher m = java.util.regex.Pattern.compile("[a-z]+|[0-9]+|[^ \n]").matcher(text);
            while (m.find()) {
                tokens.add(m.group());
                places.add(m.start());
            }
            tokens.add("");
            places.add(text.length());
        }

        private int[] at(int fault) {
            return new int[] {fault, places.get(at), 0};
        }

        int[] fault() {
            int lines = 0;
            Map<String, Integer> seen = new HashMap<>();
            Map<String, Integer> most = Map.of("room", 4, "way", 6, "visitor", 5, "round", 1);
            while (!tokens.get(at).isEmpty()) {
                String word = tokens.get(at);
                if (lines == 0 ? !word.equals("house") : !most.containsKey(word)) {
                    return at(1);
                }
                int number = seen.merge(word, 1, Integer::sum);
                if (lines > 0 && number > most.get(word)) {
                    return at(3);
                }
                int rooms = seen.getOrDefault("room", 0) - (word.equals("room") ? 1 : 0);
                int[] bad = line(word, rooms);
                if (bad != null) {
                    return bad;
                }
                lines++;
            }
            return new int[] {0, -1, lines};
        }

        private int[] line(String word, int rooms) {
            String form = Map.of("house", "law 0-3 odds 0-10 minutes 1-30 ;", "room", "wait 1-7 worth 0-99 ;", "way", "R U ;",
                "visitor", "in R at 0-29 ;", "round", "R").get(word);
            at++;
            for (String part : form.split(" ")) {
                int[] bad = part(part, rooms);
                if (bad != null) {
                    return bad;
                }
                at++;
            }
            int told = 1;
            while (word.equals("round") && !tokens.get(at).equals(";")) {
                told++;
                int[] bad = part("R", rooms);
                if (bad != null || told > 12) {
                    return bad != null ? bad : at(3);
                }
                at++;
            }
            at += word.equals("round") ? 1 : 0;
            return null;
        }

        private int[] part(String part, int rooms) {
            String token = tokens.get(at);
            if (Character.isLowerCase(part.charAt(0)) || part.equals(";")) {
                return token.equals(part) ? null : at(1);
            }
            if (!token.matches("[0-9]+")) {
                return at(1);
            }
            java.math.BigInteger value = new java.math.BigInteger(token);
            String[] bounds = part.length() > 1 ? part.split("-") : new String[] {"0", String.valueOf(rooms - 1)};
            boolean fine = value.compareTo(new java.math.BigInteger(bounds[0])) >= 0
                && value.compareTo(new java.math.BigInteger(bounds[1])) <= 0;
            boolean twice = part.equals("U") && value.equals(new java.math.BigInteger(tokens.get(at - 1)));
            return fine && !twice ? null : at(2);
        }
    }
}
