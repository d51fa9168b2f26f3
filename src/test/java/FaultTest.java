import java.util.ArrayList;
import java.util.HashMap;
import java.util.HashSet;
import java.util.List;
import java.util.Map;
import java.util.Random;
import java.util.Set;
import java.util.regex.Matcher;
import java.util.regex.Pattern;

/** Promises 4 and 5 once more: many texts, some spoilt, read by the class and by a table of lines. */
public final class FaultTest {
    private static final Map<String, String> LINES = new HashMap<>();
    private static final Pattern TOKEN = Pattern.compile("[a-z]+|[0-9]+|[^ \n]", Pattern.DOTALL);
    private static final String[] WORDS = {"valley", "wide", "deep", "layers", "hours", "cools", "sells", "within", "price",
        "wind", "from", "to", "still", "north", "east", "shop", "at", "sand", "gas", "goods", "door", "wants", "fair", "plan",
        "rises", "sinks", ";", "0", "1", "9", "25", "x", "A", "\t", " ", "\n", ""};
    private static Random random;

    public static void main(String[] args) {
        LINES.put("valley", "wide 2:8 deep 2:8 layers 2:5 hours 1:24 cools 0:24 ;");
        LINES.put("sells", "within 0:l price 0:99 ;");
        LINES.put("wind", "1:l from 0:h still|north|east|south|west ;");
        LINES.put("shop", "at 0:x 0:y 0:l sand 0:9 gas 0:9 goods 0:9 ;");
        LINES.put("door", "at 0:x 0:d wants 0:9 ;");
        LINES.put("fair", "at 0:x 0:y from 0:h to f:h ;");
        LINES.put("plan", "0:s 0:h rises|sinks ;");
        int good = 0;
        for (int seed = 0; seed < 20000; seed++) {
            random = new Random(seed);
            String text = draw();
            int[] due = read(text);
            good += due[0] == 0 ? 1 : 0;
            BalloonGrocers x = new BalloonGrocers();
            Check.tell(x, text);
            Check.due("valley() of " + text, x.valley(), due[0] == 0 ? due[2] : -4);
            Check.due("fault(0) of " + text, x.fault(0), due[0]);
            Check.due("fault(1) of " + text, x.fault(1), due[1]);
            Check.due("count(10) of " + text, x.count(10), 0);
            Check.due("count(9) of " + text, x.count(9), due[0] == 0 ? due[2] : 0);
        }
        Check.due("enough good texts", good > 4000 ? 1 : 0, 1);
        Check.finish("FaultTest");
    }

    private static int below(int n) {
        return random.nextInt(n);
    }

    private static String draw() {
        StringBuilder t = new StringBuilder("valley wide 5 deep 4 layers 4 hours 9 cools 0;");
        int lines = below(4) == 0 ? 35 : below(9);
        int shops = 0;
        int doors = 0;
        for (int i = 0; i < lines; i++) {
            int kind = below(6);
            if (kind == 0) {
                t.append("sells within " + below(4) + " price " + below(100) + ";");
            } else if (kind == 1) {
                t.append("wind " + (1 + below(3)) + " from " + below(9) + " " + WORDS[12 + below(3)] + " ;\n");
            } else if (kind == 2 && (shops < 4 || below(9) == 0)) {
                t.append("shop at " + below(5) + " " + below(4) + " " + below(4) + " sand " + below(10) + "gas" + below(10) + "goods 3;");
                shops++;
            } else if (kind == 3 && (doors < 5 || below(9) == 0)) {
                t.append("door at " + doors % 5 + " " + (below(15) == 0 ? below(4) : doors / 5) + " wants 0" + below(10) + ";");
                doors++;
            } else if (kind == 4) {
                int from = below(9);
                t.append("fair at " + below(5) + " " + below(4) + " from " + from + " to " + (from + below(9 - from)) + ";");
            } else if (kind == 5 && shops > 0) {
                t.append("plan " + below(shops) + " " + below(9) + (below(2) == 0 ? " rises;" : " sinks;"));
            }
        }
        String text = t.toString();
        for (int i = below(3); i > 0; i--) {
            int at = below(text.length());
            int to = Math.min(text.length(), at + below(4));
            text = text.substring(0, at) + WORDS[below(WORDS.length)] + text.substring(to);
        }
        return text.length() > 1600 ? text.substring(0, 1600) : text;
    }

    /** Fault, place, lines. */
    private static int[] read(String text) {
        List<String> tokens = new ArrayList<>();
        List<Integer> places = new ArrayList<>();
        Matcher m = TOKEN.matcher(text);
        while (m.find()) {
            tokens.add(m.group());
            places.add(m.start());
        }
        tokens.add("");
        places.add(text.length());
        Map<String, Integer> sizes = new HashMap<>();
        Map<String, Integer> counts = new HashMap<>();
        Set<String> columns = new HashSet<>();
        int lines = 0;
        int i = 0;
        while (i < tokens.size() - 1) {
            String word = tokens.get(i);
            if (!LINES.containsKey(word) || (lines == 0) != word.equals("valley")) {
                return new int[] {1, places.get(i), 0};
            }
            int most = word.equals("wind") ? 20 : word.equals("shop") ? 4 : word.equals("door") ? 5 : 999;
            if (counts.merge(word, 1, Integer::sum) > most) {
                return new int[] {3, places.get(i), 0};
            }
            String key = "";
            int before = -1;
            for (String form : LINES.get(word).split(" ")) {
                i++;
                String token = tokens.get(i);
                int[] bad = {form.contains(":") ? 2 : 1, places.get(i), 0};
                if (!form.contains(":")) {
                    if (!List.of(form.split("\\|")).contains(token)) {
                        return bad;
                    }
                    key = token;
                    continue;
                }
                if (!token.matches("[0-9]+")) {
                    return new int[] {1, places.get(i), 0};
                }
                int value = token.replaceAll("^0+", "").length() > 6 ? 999999 : Integer.parseInt(token);
                String low = form.split(":")[0];
                String high = form.split(":")[1];
                int least = low.equals("f") ? before : Integer.parseInt(low);
                int limit = high.equals("s") ? counts.getOrDefault("shop", 0) - 1
                    : high.matches("[0-9]+") ? Integer.parseInt(high) : sizes.get(high) - 1;
                if (value < least || value > limit || high.equals("d") && !columns.add(before + " " + value)) {
                    return bad;
                }
                if (word.equals("valley")) {
                    String name = Map.of("wide", "x", "deep", "y", "layers", "l", "hours", "h", "cools", "c").get(key);
                    sizes.put(name, value);
                    sizes.put("d", sizes.getOrDefault("y", 0));
                }
                before = value;
            }
            i++;
            lines++;
        }
        return new int[] {0, -1, lines};
    }
}
