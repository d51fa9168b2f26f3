import java.util.ArrayList;
import java.util.List;

/** The document's face in its plainest form, with the whole Java library: what RunsTest asks the class against. */
public final class Plain {
    private static final int NO_WORTH = -1000000;

    PlainValley valley;
    final StringBuilder tape = new StringBuilder();
    private final PlainValley[] images = new PlainValley[3];
    private final boolean[] kept = new boolean[3];
    private final long[][] rows = new long[4][];
    private final int[] widths = new int[4];
    private int faultKind;
    private int faultPlace = -1;

    public int feed(int a, int b, int c, int d, int e) {
        if (tape.length() + 20 > 1600) {
            return -1;
        }
        for (int number : new int[] {a, b, c, d, e}) {
            for (int shift = 24; shift >= 0; shift -= 8) {
                tape.append((char) (number >> shift & 255));
            }
        }
        return tape.length();
    }

    public int end(int n) {
        if (!within(n, 0, tape.length())) {
            return -1;
        }
        tape.setLength(n);
        return n;
    }

    public int valley() {
        String text = tape.toString();
        tape.setLength(0);
        try {
            valley = PlainReader.read(text);
            faultKind = 0;
            faultPlace = -1;
            return valley == null ? 0 : valley.lines;
        } catch (PlainReader.Fault fault) {
            faultKind = fault.kind;
            faultPlace = fault.place;
            return -4;
        }
    }

    public int fault(int what) {
        return what == 0 ? faultKind : what == 1 ? faultPlace : -1;
    }

    static boolean within(int n, int least, int most) {
        return n >= least && n <= most;
    }

    private boolean hasShop(int shop) {
        return valley != null && within(shop, 0, valley.shops.size() - 1);
    }

    private boolean hasTwo(int shop, int other) {
        return hasShop(shop) && hasShop(other) && shop != other;
    }

    private boolean hasDoor(int door) {
        return valley != null && within(door, 0, valley.doors.size() - 1);
    }

    private boolean hasLayer(int layer) {
        return valley != null && within(layer, 0, valley.layers - 1);
    }

    private boolean hasHour(int hour) {
        return valley != null && within(hour, 0, valley.hours - 1);
    }

    private boolean hasHour(int shop, int hour) {
        return hasShop(shop) && hasHour(hour);
    }

    private boolean hasColumn(int x, int y) {
        return valley != null && valley.hasColumn(x, y);
    }

    private boolean hasCell(int shop, int x, int y, int layer) {
        return hasShop(shop) && hasColumn(x, y) && hasLayer(layer);
    }

    private boolean hasSet(int shop, int set) {
        return hasShop(shop) && within(set, 0, (1 << valley.doors.size()) - 1);
    }

    private boolean isDraw(int seed, int odds) {
        return valley != null && within(seed, 0, 2000000000) && within(odds, 0, 100);
    }

    public int wind(int layer, int hour) {
        return hasLayer(layer) && hasHour(hour) ? valley.wind[layer][hour] : -2;
    }

    public int often(int layer, int wind) {
        if (!hasLayer(layer) || !within(wind, 0, 4)) {
            return -2;
        }
        int sum = 0;
        for (int blows : valley.wind[layer]) {
            sum += blows == wind ? 1 : 0;
        }
        return sum;
    }

    public int shop(int shop, int what) {
        return hasShop(shop) && within(what, 0, 5) ? valley.shops.get(shop)[what] : -2;
    }

    public int door(int door, int what) {
        if (!hasDoor(door) || !within(what, 0, 3)) {
            return -2;
        }
        return what == 3 ? valley.fly().wants[door] : valley.doors.get(door)[what];
    }

    public int act(int shop, int hour) {
        return hasHour(shop, hour) ? valley.plan[shop][hour] : -2;
    }

    public int plan(int shop, int hour, int act) {
        if (!hasHour(shop, hour) || !within(act, 0, 2)) {
            return -2;
        }
        if (valley.changes.size() == 60) {
            return -5;
        }
        int was = valley.plan[shop][hour];
        valley.changes.add(new int[] {shop, hour, act, was});
        valley.plan[shop][hour] = act;
        return was;
    }

    public int undo() {
        if (valley == null) {
            return -2;
        }
        if (valley.changes.isEmpty()) {
            return -5;
        }
        int[] change = valley.changes.remove(valley.changes.size() - 1);
        valley.plan[change[0]][change[1]] = change[3];
        return valley.changes.size();
    }

    public int changed(int i, int what) {
        if (valley == null || !within(what, 0, 3)) {
            return -2;
        }
        return within(i, 0, valley.changes.size() - 1) ? valley.changes.get(i)[what] : -1;
    }

    public int where(int shop, int hour, int what) {
        return hasHour(shop, hour) && within(what, 0, 6) ? valley.fly().behind[shop][hour][what] : -2;
    }

    public int why(int shop, int hour) {
        return hasHour(shop, hour) ? valley.fly().why[shop][hour] : -2;
    }

    public int vain(int shop) {
        if (!hasShop(shop)) {
            return -2;
        }
        int sum = 0;
        for (int why : valley.fly().why[shop]) {
            sum += why != 0 ? 1 : 0;
        }
        return sum;
    }

    public int blown(int shop, int hour) {
        return hasHour(shop, hour) ? valley.fly().blown[shop][hour] : -2;
    }

    public int sales(int shop, int door) {
        if (!hasShop(shop) || door != -1 && !hasDoor(door)) {
            return -2;
        }
        int sum = 0;
        for (int seller : valley.fly().door[shop]) {
            sum += seller >= 0 && (door == -1 || seller == door) ? 1 : 0;
        }
        return sum;
    }

    public int sold(int shop, int i) {
        if (!hasShop(shop)) {
            return -2;
        }
        List<Integer> hours = new ArrayList<>();
        for (int hour = 0; hour < valley.hours; hour++) {
            if (valley.fly().door[shop][hour] >= 0) {
                hours.add(hour);
            }
        }
        return within(i, 0, hours.size() - 1) ? hours.get(i) : -1;
    }

    public int money() {
        return valley == null ? -2 : valley.fly().money();
    }

    public int richest() {
        if (valley == null) {
            return -2;
        }
        int rich = -1;
        for (int shop = 0; shop < valley.shops.size(); shop++) {
            if (rich < 0 || where(shop, valley.hours - 1, 6) > where(rich, valley.hours - 1, 6)) {
                rich = shop;
            }
        }
        return rich;
    }

    public int meets(int shop, int other) {
        if (!hasTwo(shop, other)) {
            return -2;
        }
        int bits = 0;
        for (int hour = 0; hour < valley.hours; hour++) {
            boolean meet = true;
            for (int what = 0; what < 3; what++) {
                meet &= where(shop, hour, what) == where(other, hour, what);
            }
            bits |= meet ? 1 << hour : 0;
        }
        return bits;
    }

    public int over(int shop, int x, int y) {
        if (!hasShop(shop) || !hasColumn(x, y)) {
            return -2;
        }
        int bits = 0;
        for (int hour = 0; hour < valley.hours; hour++) {
            bits |= where(shop, hour, 0) == x && where(shop, hour, 1) == y ? 1 << hour : 0;
        }
        return bits;
    }

    public int grounded(int shop) {
        if (!hasShop(shop)) {
            return -2;
        }
        int bits = 0;
        for (int hour = 0; hour < valley.hours; hour++) {
            bits |= where(shop, hour, 2) == 0 ? 1 << hour : 0;
        }
        return bits;
    }

    public int least(int shop, int x, int y, int layer) {
        if (!hasCell(shop, x, y, layer)) {
            return -2;
        }
        int cell = 100 * x + 10 * y + layer;
        if (valley.start(shop).cell() == cell) {
            return 0;
        }
        int least = -1;
        for (var places : valley.places(shop)) {
            int sand = PlainValley.leastIn(places, cell);
            least = sand >= 0 && (least < 0 || sand < least) ? sand : least;
        }
        return least;
    }

    public int soonest(int shop, int x, int y, int layer) {
        return hasCell(shop, x, y, layer) ? valley.soonest(shop, 100 * x + 10 * y + layer) : -2;
    }

    public int way(int shop, int x, int y, int layer, int hour) {
        if (!hasCell(shop, x, y, layer) || !hasHour(hour)) {
            return -2;
        }
        int[] row = valley.way(shop, 100 * x + 10 * y + layer);
        return row == null || hour >= row.length ? -1 : row[hour];
    }

    public int spots(int shop, int hour) {
        if (!hasHour(shop, hour)) {
            return -2;
        }
        return (int) valley.places(shop).get(hour).stream().map(PlainValley.Place::cell).distinct().count();
    }

    public int columns(int shop, int hour) {
        if (!hasHour(shop, hour)) {
            return -2;
        }
        return (int) valley.places(shop).get(hour).stream().map(PlainValley.Place::column).distinct().count();
    }

    public long ways(int shop, int hour) {
        return hasHour(shop, hour) ? valley.ways(shop, hour) : -2;
    }

    public int tour(int shop, int set) {
        if (!hasSet(shop, set)) {
            return -2;
        }
        int sand = valley.tours(shop)[set][0];
        return sand == 99 ? -1 : sand;
    }

    public int done(int shop, int set) {
        if (!hasSet(shop, set)) {
            return -2;
        }
        int hour = valley.tours(shop)[set][1];
        return hour == 99 ? -1 : hour;
    }

    public int doors(int shop, int n, int what) {
        if (!hasShop(shop) || !within(n, 0, 9) || !within(what, 0, 1)) {
            return -2;
        }
        int[][] tours = valley.tours(shop);
        int best = 0;
        for (int set = 1; set < tours.length; set++) {
            if (tours[set][0] <= n && Integer.bitCount(set) > Integer.bitCount(best)) {
                best = set;
            }
        }
        return what == 0 ? Integer.bitCount(best) : best;
    }

    public int fair(int shop) {
        if (!hasShop(shop)) {
            return -2;
        }
        int[] fair = valley.fair;
        if (fair == null) {
            return -1;
        }
        return valley.mostHours(shop, (place, hour) -> place.x() == fair[0] && place.y() == fair[1] && within(hour, fair[2], fair[3]));
    }

    public int aloft(int shop) {
        return hasShop(shop) ? valley.mostHours(shop, (place, hour) -> place.layer() > 0) : -2;
    }

    public int lasts(int shop) {
        if (!hasShop(shop)) {
            return -2;
        }
        var places = valley.places(shop);
        int hour = valley.hours - 1;
        while (hour >= 0 && places.get(hour).stream().allMatch(place -> place.layer() == 0)) {
            hour--;
        }
        return hour;
    }

    public int meet(int shop, int other) {
        return hasTwo(shop, other) ? valley.together(shop, other, 0) : -2;
    }

    public int rope(int shop, int other) {
        return hasTwo(shop, other) ? valley.together(shop, other, 1) : -2;
    }

    public int lands(int shop, int hour) {
        return hasHour(shop, hour) ? valley.lies(valley.fly().behind[shop][hour], hour) : -2;
    }

    /** Pairs whose drop lies in a column, as 100 times the shop and the hour. */
    private List<Integer> pairs(int x, int y) {
        List<Integer> pairs = new ArrayList<>();
        for (int shop = 0; shop < valley.shops.size(); shop++) {
            for (int hour = 0; hour < valley.hours; hour++) {
                if (where(shop, hour, 2) > 0 && lands(shop, hour) == 100 * x + y) {
                    pairs.add(100 * shop + hour);
                }
            }
        }
        return pairs;
    }

    public int who(int x, int y) {
        return hasColumn(x, y) ? pairs(x, y).size() : -2;
    }

    public int first(int x, int y) {
        if (!hasColumn(x, y)) {
            return -2;
        }
        List<Integer> pairs = pairs(x, y);
        return pairs.isEmpty() ? -1 : pairs.get(0);
    }

    public int suspects(int x, int y) {
        if (!hasColumn(x, y)) {
            return -2;
        }
        int bits = 0;
        for (int pair : pairs(x, y)) {
            bits |= 1 << pair / 100;
        }
        return bits;
    }

    private boolean hasDrift(int x, int y, int layer, int hour, int n) {
        return hasColumn(x, y) && hasLayer(layer) && hasHour(hour) && within(n, 0, 24);
    }

    public int drift(int x, int y, int layer, int hour, int n) {
        return hasDrift(x, y, layer, hour, n) ? valley.drift(x, y, layer, hour, n) : -2;
    }

    public int whence(int x, int y, int layer, int hour, int n) {
        if (!hasDrift(x, y, layer, hour, n)) {
            return -2;
        }
        for (int from = 0; from < 800; from++) {
            if (valley.hasColumn(from / 100, from % 100) && valley.drift(from / 100, from % 100, layer, hour, n) == 100 * x + y) {
                return from;
            }
        }
        return -1;
    }

    /** -2 or -6 if a slot can't be read as groups of numbers below these bounds; 0 if it can. */
    private int refusal(int slot, int... bounds) {
        if (!within(slot, 0, 3)) {
            return -2;
        }
        if (rows[slot] == null) {
            return -6;
        }
        boolean good = rows[slot].length % bounds.length == 0;
        for (int i = 0; i < rows[slot].length; i++) {
            good &= rows[slot][i] >= 0 && rows[slot][i] < bounds[i % bounds.length];
        }
        return good ? 0 : -2;
    }

    public int smoke(int slot) {
        int refusal = valley == null ? -2 : refusal(slot, valley.hours, valley.wide, valley.deep, valley.wide, valley.deep);
        int bits = 0;
        for (int layer = 0; refusal == 0 && layer < valley.layers; layer++) {
            boolean all = true;
            for (int i = 0; i < rows[slot].length; i += 5) {
                long[] r = rows[slot];
                all &= valley.drift((int) r[i + 1], (int) r[i + 2], layer, (int) r[i], 1) == 100 * r[i + 3] + r[i + 4];
            }
            bits |= all ? 1 << layer : 0;
        }
        return refusal == 0 ? bits : refusal;
    }

    public int kites(int slot) {
        int refusal = valley == null ? -2 : refusal(slot, valley.hours, 5);
        int bits = 0;
        for (int layer = 0; refusal == 0 && layer < valley.layers; layer++) {
            boolean all = true;
            for (int i = 0; i < rows[slot].length; i += 2) {
                all &= valley.wind[layer][(int) rows[slot][i]] == rows[slot][i + 1];
            }
            bits |= all ? 1 << layer : 0;
        }
        return refusal == 0 ? bits : refusal;
    }

    public int known(int layer) {
        if (!hasLayer(layer)) {
            return -2;
        }
        List<Integer> alike = new ArrayList<>();
        for (int twin = 0; twin < valley.layers; twin++) {
            alike.add(twin);
        }
        for (int told = 0; told <= valley.hours; told++) {
            if (alike.size() == 1) {
                return told;
            }
            int hour = told;
            alike.removeIf(twin -> hour < valley.hours && valley.wind[twin][hour] != valley.wind[layer][hour]);
        }
        return -1;
    }

    public int price(int layer) {
        if (!hasLayer(layer)) {
            return -2;
        }
        return layer > valley.reach ? -1 : Math.max(0, valley.price - layer);
    }

    public int worth(int shop, int hour, int act) {
        if (!hasHour(shop, hour) || !within(act, 0, 2)) {
            return NO_WORTH;
        }
        PlainValley twin = valley.copy();
        twin.plan[shop][hour] = act;
        return twin.fly().money() - money();
    }

    public int best() {
        if (valley == null) {
            return -2;
        }
        int most = 0;
        int best = -1;
        for (int i = 0; i < valley.shops.size() * valley.hours * 3; i++) {
            int shop = i / 3 / valley.hours;
            int hour = i / 3 % valley.hours;
            int worth = worth(shop, hour, i % 3);
            if (worth > most) {
                most = worth;
                best = 1000 * shop + 10 * hour + i % 3;
            }
        }
        return best;
    }

    public int other(int what) {
        if (valley == null || !within(what, 0, 4)) {
            return NO_WORTH;
        }
        PlainValley twin = valley.copy();
        switch (what) {
            case 0:
                twin.cools = 0;
                break;
            case 1:
                twin.wind = new int[valley.layers][valley.hours];
                break;
            case 2:
                twin.reach = Math.min(twin.reach + 1, twin.layers - 1);
                break;
            default:
                twin.shops.forEach(shop -> shop[what]++);
        }
        return twin.fly().money() - money();
    }

    public int load(int shop, int what, int n) {
        if (!hasShop(shop) || !within(what, 3, 5) || !within(n, 0, 9)) {
            return -2;
        }
        int was = valley.shops.get(shop)[what];
        valley.shops.get(shop)[what] = n;
        return was;
    }

    public int turn(int layer, int hour, int wind) {
        if (!hasLayer(layer) || layer == 0 || !hasHour(hour) || !within(wind, 0, 4)) {
            return -2;
        }
        int was = valley.wind[layer][hour];
        valley.wind[layer][hour] = wind;
        return was;
    }

    public int gust(int seed, int odds, int shop, int hour) {
        if (!isDraw(seed, odds) || !hasHour(shop, hour)) {
            return -2;
        }
        int[] it = valley.fly(seed, odds).behind[shop][hour];
        return 100 * it[0] + 10 * it[1] + it[2];
    }

    public int chance(int seed, int n, int odds, int shop, int x, int y) {
        if (!isDraw(seed, odds) || !within(n, 1, 20) || !hasShop(shop) || !hasColumn(x, y)) {
            return -2;
        }
        int sum = 0;
        for (int i = 0; i < n; i++) {
            int[] it = valley.fly(seed + i, odds).behind[shop][valley.hours - 1];
            sum += it[0] == x && it[1] == y ? 1 : 0;
        }
        return sum;
    }

    public int takings(int seed, int odds) {
        return isDraw(seed, odds) ? valley.fly(seed, odds).money() : -2;
    }

    public int count(int what) {
        if (what == 10) {
            return tape.length();
        }
        if (what == 12) {
            int sum = 0;
            for (long[] row : rows) {
                sum += row != null ? 1 : 0;
            }
            return sum;
        }
        if (!within(what, 0, 12)) {
            return -1;
        }
        PlainValley v = valley;
        return v == null ? 0 : new int[] {v.wide, v.deep, v.layers, v.hours, v.cools, v.reach, v.price, v.shops.size(),
            v.doors.size(), v.lines, 0, v.changes.size()}[what];
    }

    public int keep(int k) {
        if (!within(k, 0, 2)) {
            return -2;
        }
        images[k] = valley == null ? null : valley.copy();
        kept[k] = true;
        return 0;
    }

    public int back(int k) {
        if (!within(k, 0, 2)) {
            return -2;
        }
        if (!kept[k]) {
            return -6;
        }
        valley = images[k] == null ? null : images[k].copy();
        return 0;
    }

    public int row(int slot, int width, int n) {
        if (!within(slot, 0, 3) || !within(width, 0, 3) || n > 60) {
            return -2;
        }
        if (n < 0) {
            return -3;
        }
        rows[slot] = new long[n];
        widths[slot] = width;
        return 0;
    }

    public int write(int slot, int i, long v) {
        if (!within(slot, 0, 3)) {
            return -2;
        }
        if (rows[slot] == null) {
            return -6;
        }
        if (!within(i, 0, rows[slot].length - 1)) {
            return -7;
        }
        int beyond = 64 - (8 << widths[slot]);
        rows[slot][i] = v << beyond >> beyond;
        return 0;
    }

    public int paste(int slot, int i, int to, int k, int n) {
        if (!within(slot, 0, 3) || !within(to, 0, 3)) {
            return -2;
        }
        if (rows[slot] == null || rows[to] == null) {
            return -6;
        }
        if (widths[slot] != widths[to]) {
            return -8;
        }
        boolean inside = (long) i + n <= rows[slot].length && (long) k + n <= rows[to].length;
        if (i < 0 || k < 0 || n < 0 || !inside) {
            return -7;
        }
        long[] were = rows[slot].clone();
        for (int at = 0; at < n; at++) {
            rows[to][k + at] = were[i + at];
        }
        return 0;
    }
}
