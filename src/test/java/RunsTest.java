import java.io.IOException;
import java.lang.reflect.Method;
import java.nio.file.Files;
import java.nio.file.Path;
import java.util.ArrayList;
import java.util.Arrays;
import java.util.Collections;
import java.util.List;
import java.util.Map;
import java.util.Random;
import java.util.TreeMap;
import java.util.regex.Matcher;
import java.util.regex.Pattern;

/**
 * Whole runs of up to 512 calls of the face, with texts between them, good and spoilt: the class and the plain form
 * of the document are asked the same, so that no call leaves behind what a later one should not find.
 */
public final class RunsTest {
    private static final Path DOCUMENT = Path.of("../shared/DOC.md");
    private static final int RUNS = 1500;
    private static final int CALLS = 512;
    private static final String[] SPOILS = {"", ";", "9", "0", "25", "99999999999", "valley", "wind", "shop at", "door", "plan 0 0 rises;",
        "sinks", "sells", "\t", "A", "\u00e9", " ", "\0", "`", "{", "/", ":"};
    private static final int[] FAR = {Integer.MIN_VALUE, Integer.MAX_VALUE, -2, 32, 256, 65536, 2000000001};

    /** A method of the face: in the class, in the plain form, and its parameters' names. */
    private record Ask(String name, Method method, Method plain, String[] numbers) {
    }

    private static final List<Ask> FACE = new ArrayList<>();
    /** How many answers were not below 0, by method. */
    private static final Map<String, Integer> GOOD = new TreeMap<>();
    private static Random random;
    private static BalloonGrocers x;
    private static Plain plain;
    private static StringBuilder run;
    private static int calls;

    public static void main(String[] args) throws IOException, ReflectiveOperationException {
        readFace();
        for (int seed = 0; seed < RUNS; seed++) {
            random = new Random(seed);
            run(seed % 10 == 0);
        }
        for (Ask ask : FACE) {
            Check.due("enough answers of " + ask.name, GOOD.getOrDefault(ask.name, 0) > 300 ? 1 : 0, 1);
        }
        Check.finish("RunsTest");
    }

    private static void readFace() throws IOException, ReflectiveOperationException {
        Matcher m = Pattern.compile("    public (?:int|long) (\\w+)\\(([^)]*)\\);").matcher(Files.readString(DOCUMENT));
        while (m.find()) {
            String[] parts = m.group(2).isEmpty() ? new String[0] : m.group(2).split(", ");
            Class<?>[] types = new Class<?>[parts.length];
            String[] names = new String[parts.length];
            for (int i = 0; i < parts.length; i++) {
                types[i] = parts[i].startsWith("long ") ? long.class : int.class;
                names[i] = parts[i].substring(parts[i].indexOf(' ') + 1);
            }
            String name = m.group(1);
            FACE.add(new Ask(name, BalloonGrocers.class.getMethod(name, types), Plain.class.getMethod(name, types), names));
        }
        Check.due("methods of the face", FACE.size(), 61);
    }

    private static int below(int n) {
        return random.nextInt(n);
    }

    private static boolean oneIn(int n) {
        return below(n) == 0;
    }

    private static void run(boolean large) throws ReflectiveOperationException {
        x = new BalloonGrocers();
        plain = new Plain();
        run = new StringBuilder();
        calls = 0;
        while (calls < CALLS - 100) {
            if (calls == 0 && !oneIn(10) || oneIn(90)) {
                tell(text(large));
            } else {
                ask(large);
            }
        }
    }

    private static void due(String call, long got, long want) {
        calls++;
        run.append(call).append(' ');
        if (got != want) {
            Check.due(run.toString(), got, want);
            calls = CALLS;
        } else {
            Check.due(call, got, want);
        }
    }

    /** Sometimes the filling behind it stays, and sometimes it is not read yet. */
    private static void tell(String text) {
        int before = plain.tape.length();
        for (int from = 0; from < text.length(); from += 20) {
            int[] n = new int[5];
            for (int i = 0; i < 20; i++) {
                n[i / 4] = n[i / 4] << 8 | (from + i < text.length() ? text.charAt(from + i) & 255 : ' ');
            }
            due("feed " + Arrays.toString(n), x.feed(n[0], n[1], n[2], n[3], n[4]), plain.feed(n[0], n[1], n[2], n[3], n[4]));
        }
        if (!oneIn(6)) {
            due("end " + (before + text.length()), x.end(before + text.length()), plain.end(before + text.length()));
        }
        if (!oneIn(8)) {
            due("valley", x.valley(), plain.valley());
            due("fault 0", x.fault(0), plain.fault(0));
            due("fault 1", x.fault(1), plain.fault(1));
        }
    }

    private static void ask(boolean large) throws ReflectiveOperationException {
        Ask ask = FACE.get(below(FACE.size()));
        boolean slow = large && List.of("tour", "done", "doors").contains(ask.name) && !oneIn(8);
        boolean rare = List.of("feed", "end", "valley").contains(ask.name) && !oneIn(12);
        if (slow || rare) {
            return;
        }
        Object[] numbers = new Object[ask.numbers.length];
        for (int i = 0; i < numbers.length; i++) {
            int number = number(ask.name, ask.numbers[i]);
            numbers[i] = ask.numbers[i].equals("v") ? (Object) longOf(number) : (Object) number;
        }
        long want = ((Number) ask.plain.invoke(plain, numbers)).longValue();
        due(ask.name + Arrays.toString(numbers), ((Number) ask.method.invoke(x, numbers)).longValue(), want);
        GOOD.merge(ask.name, want >= 0 ? 1 : 0, Integer::sum);
    }

    private static int number(String method, String name) {
        int limit = limit(method, name);
        if (oneIn(40)) {
            return oneIn(2) ? limit : oneIn(2) ? -1 : FAR[below(FAR.length)];
        }
        if (method.equals("load") && name.equals("what")) {
            return 3 + below(3);
        }
        if (method.equals("row") && name.equals("n") && !oneIn(3)) {
            return oneIn(2) ? 5 * below(3) : 2 * below(3);
        }
        return below(Math.max(1, limit)) - (method.equals("sales") && name.equals("door") ? 1 : 0);
    }

    private static long longOf(int number) {
        if (oneIn(10)) {
            return random.nextLong();
        }
        return oneIn(10) ? number + (1L << (8 << below(3))) : number;
    }

    /** What a number of this name is below, if there is such a thing. */
    private static int limit(String method, String name) {
        PlainValley v = plain.valley == null ? new PlainValley() : plain.valley;
        switch (name) {
            case "shop": return v.shops.size();
            case "other": return v.shops.size();
            case "door": return v.doors.size() + (method.equals("sales") ? 1 : 0);
            case "set": return 1 << v.doors.size();
            case "layer": return v.layers;
            case "hour": return v.hours;
            case "x": return v.wide;
            case "y": return v.deep;
            case "act": return 3;
            case "wind": return 5;
            case "seed": return oneIn(2) ? 2000000000 : 3;
            case "odds": return 101;
            case "slot": return 4;
            case "to": return 4;
            case "width": return oneIn(2) ? 4 : 1;
            case "v": return oneIn(4) ? 300 : 5;
            case "k": return method.equals("paste") ? 6 : 3;
            case "i": return limitOfI(method, v);
            case "n": return limitOfN(method);
            case "what": return limitOfWhat(method);
            default: return Integer.MAX_VALUE;
        }
    }

    private static int limitOfI(String method, PlainValley v) {
        switch (method) {
            case "write": return oneIn(4) ? 60 : 10;
            case "changed": return v.changes.size();
            case "sold": return 3;
            default: return 5;
        }
    }

    private static int limitOfN(String method) {
        switch (method) {
            case "end": return plain.tape.length() + 1;
            case "chance": return 21;
            case "row": return oneIn(5) ? 61 : 11;
            case "paste": return 6;
            case "drift": return oneIn(2) ? 25 : 4;
            case "whence": return oneIn(2) ? 25 : 4;
            default: return 10;
        }
    }

    private static int limitOfWhat(String method) {
        switch (method) {
            case "fault": return 2;
            case "doors": return 2;
            case "door": return 4;
            case "changed": return 4;
            case "other": return 5;
            case "where": return 7;
            case "count": return 13;
            default: return 6;
        }
    }

    private static String text(boolean large) {
        if (oneIn(12)) {
            return "";
        }
        int[] size = {2 + below(large ? 7 : 3), 2 + below(large ? 7 : 3), 2 + below(4), 1 + below(large ? 24 : 9)};
        int cools = oneIn(3) ? 0 : below(Math.min(25, size[3] + 2));
        List<String> lines = new ArrayList<>();
        for (int i = below(22); i > 0; i--) {
            lines.add("wind " + (1 + below(size[2] - 1)) + " from " + below(size[3]) + " " + PlainValley.WINDS.get(below(5)));
        }
        for (int i = below(3); i > 0; i--) {
            lines.add("sells within " + below(size[2]) + " price " + below(oneIn(3) ? 100 : 12));
        }
        int stock = large ? 4 : 10;
        int shops = oneIn(15) ? 0 : oneIn(30) ? 5 : 1 + below(4);
        for (int i = 0; i < shops; i++) {
            lines.add("shop at " + column(size) + " " + below(size[2]) + " sand " + below(stock) + " gas " + below(stock) + " goods " + below(10));
        }
        drawDoors(size, lines);
        for (int i = below(3); i > 0; i--) {
            int from = below(size[3]);
            lines.add("fair at " + column(size) + " from " + from + " to " + (from + below(size[3] - from)));
        }
        Collections.shuffle(lines, random);
        for (int i = shops == 0 ? 0 : below(16); i > 0; i--) {
            lines.add("plan " + below(shops) + " " + below(size[3]) + (oneIn(2) ? " rises" : " sinks"));
        }
        lines.add(0, "valley wide " + size[0] + " deep " + size[1] + " layers " + size[2] + " hours " + size[3] + " cools " + cools);
        return spoilt(lines);
    }

    private static String column(int[] size) {
        return below(size[0]) + " " + below(size[1]);
    }

    private static void drawDoors(int[] size, List<String> lines) {
        List<String> columns = new ArrayList<>();
        for (int i = below(7); i > 0; i--) {
            String column = column(size);
            if (!columns.contains(column) || oneIn(10)) {
                columns.add(column);
                lines.add("door at " + column + " wants " + below(10));
            }
        }
    }

    private static String spoilt(List<String> lines) {
        String[] between = {";", "; ", " ;\n", ";  \n"};
        StringBuilder t = new StringBuilder();
        for (String line : lines) {
            t.append(line).append(between[below(4)]);
        }
        while (t.length() > 0 && oneIn(5)) {
            int at = below(t.length());
            t.replace(at, oneIn(6) ? t.length() : Math.min(t.length(), at + below(4)), SPOILS[below(SPOILS.length)]);
        }
        t.setLength(Math.min(t.length(), 1600));
        return t.toString();
    }
}
