import java.math.BigInteger;
import java.util.ArrayList;
import java.util.HashMap;
import java.util.List;
import java.util.Map;

/** Term I in its plainest form: reads a text, and throws at its first fault. */
final class PlainReader {
    /** A fault and its place. */
    static final class Fault extends Exception {
        private static final long serialVersionUID = 1L;
        final int kind;
        final int place;

        Fault(int kind, int place) {
            this.kind = kind;
            this.place = place;
        }
    }

    private final List<String> tokens = new ArrayList<>();
    private final List<Integer> places = new ArrayList<>();
    private final Map<String, Integer> told = new HashMap<>();
    private final List<int[]> acts = new ArrayList<>();
    private final PlainValley valley = new PlainValley();
    private int next;
    private int windLines;

    private PlainReader(String text) {
        int at = 0;
        while (at < text.length()) {
            int end = at + 1;
            String kind = kindOf(text.charAt(at));
            while (!kind.equals("sign") && end < text.length() && kindOf(text.charAt(end)).equals(kind)) {
                end++;
            }
            if (!kind.equals("blank")) {
                tokens.add(text.substring(at, end));
                places.add(at);
            }
            at = end;
        }
        tokens.add("");
        places.add(text.length());
    }

    private static String kindOf(char sign) {
        if (sign == ' ' || sign == '\n') {
            return "blank";
        }
        return sign >= 'a' && sign <= 'z' ? "word" : sign >= '0' && sign <= '9' ? "number" : "sign";
    }

    /** Null for a text of no lines. */
    static PlainValley read(String text) throws Fault {
        PlainReader reader = new PlainReader(text);
        return reader.tokens.size() == 1 ? null : reader.readAll();
    }

    private PlainValley readAll() throws Fault {
        word("valley");
        valley.wide = number("wide", 2, 8);
        valley.deep = number("deep", 2, 8);
        valley.layers = number("layers", 2, 5);
        valley.hours = number("hours", 1, 24);
        valley.cools = number("cools", 0, 24);
        word(";");
        valley.lines = 1;
        while (next < tokens.size() - 1) {
            readLine();
            word(";");
            valley.lines++;
        }
        spread();
        return valley;
    }

    private void readLine() throws Fault {
        int place = places.get(next);
        String kind = tokens.get(next);
        next++;
        switch (kind) {
            case "sells":
                valley.reach = number("within", 0, valley.layers - 1);
                valley.price = number("price", 0, 99);
                break;
            case "wind":
                refuse(windLines == 20, 3, place);
                windLines++;
                readWind();
                break;
            case "shop":
                refuse(valley.shops.size() == 4, 3, place);
                readShop();
                break;
            case "door":
                refuse(valley.doors.size() == 5, 3, place);
                readDoor();
                break;
            case "fair":
                readFair();
                break;
            case "plan":
                int shop = number(0, valley.shops.size() - 1);
                int hour = number(0, valley.hours - 1);
                acts.add(new int[] {shop, hour, 1 + oneOf(List.of("rises", "sinks"))});
                break;
            default:
                throw new Fault(1, place);
        }
    }

    private void readWind() throws Fault {
        int layer = number(1, valley.layers - 1);
        int hour = number("from", 0, valley.hours - 1);
        told.put(layer + " " + hour, oneOf(PlainValley.WINDS));
    }

    private void readShop() throws Fault {
        word("at");
        int x = number(0, valley.wide - 1);
        int y = number(0, valley.deep - 1);
        int layer = number(0, valley.layers - 1);
        valley.shops.add(new int[] {x, y, layer, number("sand", 0, 9), number("gas", 0, 9), number("goods", 0, 9), 0});
    }

    private void readDoor() throws Fault {
        word("at");
        int x = number(0, valley.wide - 1);
        int place = places.get(next);
        int y = number(0, valley.deep - 1);
        refuse(valley.doors.stream().anyMatch(door -> door[0] == x && door[1] == y), 2, place);
        valley.doors.add(new int[] {x, y, number("wants", 0, 9)});
    }

    private void readFair() throws Fault {
        word("at");
        int x = number(0, valley.wide - 1);
        int y = number(0, valley.deep - 1);
        int from = number("from", 0, valley.hours - 1);
        valley.fair = new int[] {x, y, from, number("to", from, valley.hours - 1)};
    }

    private void spread() {
        valley.wind = new int[valley.layers][valley.hours];
        for (int layer = 1; layer < valley.layers; layer++) {
            int wind = 0;
            for (int hour = 0; hour < valley.hours; hour++) {
                wind = told.getOrDefault(layer + " " + hour, wind);
                valley.wind[layer][hour] = wind;
            }
        }
        valley.plan = new int[valley.shops.size()][valley.hours];
        for (int[] act : acts) {
            valley.plan[act[0]][act[1]] = act[2];
        }
    }

    private static void refuse(boolean bad, int kind, int place) throws Fault {
        if (bad) {
            throw new Fault(kind, place);
        }
    }

    private void word(String word) throws Fault {
        oneOf(List.of(word));
    }

    private int oneOf(List<String> words) throws Fault {
        int which = words.indexOf(tokens.get(next));
        refuse(which < 0, 1, places.get(next));
        next++;
        return which;
    }

    private int number(String word, int least, int most) throws Fault {
        word(word);
        return number(least, most);
    }

    private int number(int least, int most) throws Fault {
        String token = tokens.get(next);
        refuse(!token.matches("[0-9]+"), 1, places.get(next));
        BigInteger number = new BigInteger(token);
        boolean bad = number.compareTo(BigInteger.valueOf(least)) < 0 || number.compareTo(BigInteger.valueOf(most)) > 0;
        refuse(bad, 2, places.get(next));
        next++;
        return number.intValue();
    }
}
