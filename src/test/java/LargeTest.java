import java.util.ArrayList;
import java.util.Arrays;
import java.util.HashSet;
import java.util.List;
import java.util.Random;
import java.util.Set;

/** The largest valleys, where rows of acts are too many: free shops against sets of single states. */
public final class LargeTest {
    private static final String[] DIRS = {"still", "north", "east", "south", "west"};

    private final int[] size;
    private final int[][] wind;
    private final int[] shop;
    private final int[][] doors;
    private final int reach;
    /** By hour: cell, sand and gas spent, doors visited, in one number; hour -1 comes first. */
    private final List<Set<Integer>> states = new ArrayList<>();

    private LargeTest(int[] size, int[][] wind, int[] shop, int[][] doors, int reach) {
        this.size = size;
        this.wind = wind;
        this.shop = shop;
        this.doors = doors;
        this.reach = reach;
        Set<Integer> set = new HashSet<>();
        set.add(visited(code(shop[0], shop[1], shop[2], 0, 0, 0)));
        states.add(set);
        for (int h = 0; h < size[3]; h++) {
            Set<Integer> next = new HashSet<>();
            for (int s : states.get(h)) {
                for (int act = 0; act < 3; act++) {
                    int to = step(s, act, h);
                    if (to >= 0) {
                        next.add(to);
                    }
                }
            }
            states.add(next);
        }
    }

    /** Bits: x 3, y 3, layer 3, sand 4, gas 4, doors 5. */
    private static int code(int x, int y, int l, int sand, int gas, int set) {
        return x | y << 3 | l << 6 | sand << 9 | gas << 13 | set << 17;
    }

    private int visited(int s) {
        int set = s >> 17;
        for (int d = 0; d < doors.length; d++) {
            if ((s & 63) == (doors[d][0] | doors[d][1] << 3) && (s >> 6 & 7) <= reach) {
                set |= 1 << d;
            }
        }
        return s & 0x1ffff | set << 17;
    }

    private int step(int s, int act, int h) {
        int x = s & 7;
        int y = s >> 3 & 7;
        int l = (s >> 6 & 7) + (act == 1 ? 1 : act == 2 ? -1 : 0);
        int sand = (s >> 9 & 15) + (act == 1 ? 1 : 0);
        int gas = (s >> 13 & 15) + (act == 2 ? 1 : 0);
        if (l < 0 || l >= size[2] || sand > shop[3] || gas > shop[4]) {
            return -1;
        }
        int w = wind[l][h];
        int nx = x + (w == 2 ? 1 : w == 4 ? -1 : 0);
        int ny = y + (w == 3 ? 1 : w == 1 ? -1 : 0);
        if (nx < 0 || nx >= size[0] || ny < 0 || ny >= size[1]) {
            nx = x;
            ny = y;
        }
        if (size[4] > 0 && (h + 1) % size[4] == 0 && l > 0) {
            l--;
        }
        return visited(code(nx, ny, l, sand, gas, s >> 17));
    }

    public static void main(String[] args) {
        for (int seed = 0; seed < 12; seed++) {
            Random r = new Random(1000 + seed);
            int[] size = {8 - seed % 2, 8 - seed % 3, 5, 24, seed % 4 == 0 ? 0 : 1 + r.nextInt(8)};
            int[][] wind = new int[5][24];
            StringBuilder t = new StringBuilder("valley wide " + size[0] + " deep " + size[1] + " layers 5 hours 24 cools " + size[4] + ";");
            for (int i = 0; i < 20; i++) {
                int l = 1 + i % 4;
                int from = 5 * (i / 4);
                int w = r.nextInt(5);
                Arrays.fill(wind[l], from, 24, w);
                t.append("wind " + l + " from " + from + " " + DIRS[w] + ";");
            }
            int[] shop = {r.nextInt(size[0]), r.nextInt(size[1]), r.nextInt(5), 9 - seed % 4, 9 - seed % 5};
            t.append("shop at " + shop[0] + " " + shop[1] + " " + shop[2] + " sand " + shop[3] + " gas " + shop[4] + " goods 0;");
            int[][] doors = new int[5][];
            for (int d = 0; d < 5; d++) {
                doors[d] = new int[] {(d * 3 + seed) % size[0], d};
                t.append("door at " + doors[d][0] + " " + doors[d][1] + " wants 1;");
            }
            int reach = r.nextInt(3);
            t.append("sells within " + reach + " price 1;fair at 3 3 from 0 to 23;");
            compare("seed " + seed + " ", Check.told(29, t.toString()), new LargeTest(size, wind, shop, doors, reach));
        }
        Check.finish("LargeTest");
    }

    private static void compare(String name, BalloonGrocers x, LargeTest m) {
        int[] tour = new int[32];
        int[] done = new int[32];
        Arrays.fill(tour, 99);
        Arrays.fill(done, 99);
        int[][] least = new int[24][512];
        for (int[] row : least) {
            Arrays.fill(row, 99);
        }
        for (int h = -1; h < 24; h++) {
            for (int s : m.states.get(h + 1)) {
                int used = s >> 9 & 15;
                for (int set = 0; set < 32; set++) {
                    if ((s >> 17 & set) == set) {
                        tour[set] = Math.min(tour[set], used);
                        done[set] = Math.min(done[set], h);
                    }
                }
                if (h >= 0) {
                    least[h][s & 511] = Math.min(least[h][s & 511], used);
                }
            }
        }
        for (int set = 0; set < 32; set++) {
            Check.due(name + "tour " + set, x.tour(0, set), tour[set] == 99 ? -1 : tour[set]);
            Check.due(name + "done " + set, x.done(0, set), done[set] == 99 ? -1 : done[set]);
        }
        compareCells(name, x, m, least);
        compareCounts(name, x, m);
    }

    private static void compareCells(String name, BalloonGrocers x, LargeTest m, int[][] least) {
        for (int h = 0; h < 24; h++) {
            int spots = 0;
            Set<Integer> columns = new HashSet<>();
            for (int cell = 0; cell < 512; cell++) {
                if (least[h][cell] != 99) {
                    spots++;
                    columns.add(cell & 63);
                }
            }
            Check.due(name + "spots " + h, x.spots(0, h), spots);
            Check.due(name + "columns " + h, x.columns(0, h), columns.size());
        }
        int start = code(m.shop[0], m.shop[1], m.shop[2], 0, 0, 0);
        for (int cell = 0; cell < 5 * 64; cell++) {
            int cx = cell & 7;
            int cy = cell >> 3 & 7;
            if (cx < m.size[0] && cy < m.size[1]) {
                int best = cell == start ? 0 : 99;
                int first = -1;
                for (int h = 23; h >= 0; h--) {
                    best = Math.min(best, least[h][cell]);
                    first = least[h][cell] != 99 ? h : first;
                }
                Check.due(name + "least " + cell, x.least(0, cx, cy, cell >> 6), best == 99 ? -1 : best);
                Check.due(name + "soonest " + cell, x.soonest(0, cx, cy, cell >> 6), first);
                if (cell % 7 == 0) {
                    compareWay(name + "way to " + cell, x, m, cell, first, first < 0 ? 0 : least[first][cell]);
                }
            }
        }
    }

    /** From the cell back, the states that lead there; then the first act that stays among them. */
    private static void compareWay(String name, BalloonGrocers x, LargeTest m, int cell, int first, int sand) {
        List<Set<Integer>> good = new ArrayList<>();
        for (int h = 0; h <= 24; h++) {
            good.add(new HashSet<>());
        }
        for (int h = first; h >= 0; h--) {
            for (int s : m.states.get(h + 1)) {
                boolean is = h == first && (s & 511) == cell && (s >> 9 & 15) == sand;
                for (int act = 0; act < 3 && h < first && !is; act++) {
                    is = good.get(h + 1).contains(m.step(s, act, h + 1));
                }
                if (is) {
                    good.get(h).add(s);
                }
            }
        }
        int s = m.states.get(0).iterator().next();
        for (int h = 0; h < 24; h++) {
            int due = -1;
            for (int act = 2; act >= 0 && h <= first; act--) {
                due = good.get(h).contains(m.step(s, act, h)) ? act : due;
            }
            Check.due(name + " in " + h, x.way(0, cell & 7, cell >> 3 & 7, cell >> 6, h), due);
            s = due < 0 ? s : m.step(s, due, h);
        }
    }

    /** Rows of acts, hours aloft, hours at the fair: the best by state, from hour to hour. */
    private static void compareCounts(String name, BalloonGrocers x, LargeTest m) {
        java.util.Map<Integer, long[]> now = new java.util.HashMap<>();
        now.put(m.states.get(0).iterator().next() & 0x1ffff, new long[] {1, 0, 0});
        int lasts = -1;
        for (int h = 0; h < 24; h++) {
            java.util.Map<Integer, long[]> next = new java.util.HashMap<>();
            long rows = 0;
            for (int s : now.keySet()) {
                for (int act = 0; act < 3; act++) {
                    int to = m.step(s, act, h) & 0x1ffff;
                    if (m.step(s, act, h) >= 0) {
                        long[] was = now.get(s);
                        long[] sum = next.computeIfAbsent(to, k -> new long[3]);
                        sum[0] += was[0];
                        rows += was[0];
                        sum[1] = Math.max(sum[1], was[1] + ((to >> 6 & 7) > 0 ? 1 : 0));
                        sum[2] = Math.max(sum[2], was[2] + ((to & 63) == (3 | 3 << 3) ? 1 : 0));
                        lasts = (to >> 6 & 7) > 0 ? h : lasts;
                    }
                }
            }
            Check.due(name + "ways " + h, x.ways(0, h), rows);
            now = next;
        }
        long aloft = 0;
        long fair = 0;
        for (long[] sum : now.values()) {
            aloft = Math.max(aloft, sum[1]);
            fair = Math.max(fair, sum[2]);
        }
        Check.due(name + "aloft", x.aloft(0), aloft);
        Check.due(name + "fair", x.fair(0), fair);
        Check.due(name + "lasts", x.lasts(0), lasts);
    }
}
