import java.util.ArrayList;
import java.util.Arrays;
import java.util.HashMap;
import java.util.HashSet;
import java.util.List;
import java.util.Map;
import java.util.Set;
import java.util.TreeMap;

/**
 * The valley once more, as plainly as can be and with the whole Java library:
 * every row of acts of a free shop is flown one by one. For short plans only.
 */
final class Model {
    int wide, deep, layers, hours, cools, reach = 0, price = 9;
    int[][] wind;
    List<int[]> shops = new ArrayList<>();
    List<int[]> doors = new ArrayList<>();
    int[] fair;
    int[][] plan;

    /** What came of a plan: [shop][hour][x, y, layer, sand, gas, goods, money, why, blown, door sold at]. */
    static final class Trace {
        int[][][] at;
        int[] wants;
        int money;
    }

    int[] blow(int x, int y, int dir) {
        int nx = x, ny = y;
        switch (dir) {
            case 1: ny--; break;
            case 2: nx++; break;
            case 3: ny++; break;
            case 4: nx--; break;
            default: break;
        }
        return nx < 0 || ny < 0 || nx >= wide || ny >= deep ? new int[] {x, y} : new int[] {nx, ny};
    }

    int doorAt(int x, int y) {
        for (int d = 0; d < doors.size(); d++) {
            if (doors.get(d)[0] == x && doors.get(d)[1] == y) {
                return d;
            }
        }
        return -1;
    }

    Trace fly(long seed, int odds) {
        Trace t = new Trace();
        t.at = new int[shops.size()][hours][];
        t.wants = new int[doors.size()];
        for (int d = 0; d < t.wants.length; d++) {
            t.wants[d] = doors.get(d)[2];
        }
        int[][] s = new int[shops.size()][];
        for (int i = 0; i < s.length; i++) {
            s[i] = Arrays.copyOf(shops.get(i), 10);
        }
        long r = seed;
        for (int h = 0; h < hours; h++) {
            boolean[] strong = new boolean[layers];
            for (int l = 1; l < layers; l++) {
                r = (1103515245L * r + 12345L) % 2147483648L;
                strong[l] = (r / 65536) % 100 < odds;
            }
            for (int i = 0; i < s.length; i++) {
                int[] b = s[i];
                b[7] = 0;
                b[9] = -1;
                if (plan[i][h] == 1) {
                    if (b[2] == layers - 1) {
                        b[7] = 3;
                    } else if (b[3] == 0) {
                        b[7] = 1;
                    } else {
                        b[2]++;
                        b[3]--;
                    }
                } else if (plan[i][h] == 2) {
                    if (b[2] == 0) {
                        b[7] = 4;
                    } else if (b[4] == 0) {
                        b[7] = 2;
                    } else {
                        b[2]--;
                        b[4]--;
                    }
                }
                int[] c = blow(b[0], b[1], wind[b[2]][h]);
                if (strong[b[2]]) {
                    c = blow(c[0], c[1], wind[b[2]][h]);
                }
                b[8] = c[0] != b[0] || c[1] != b[1] ? 1 : 0;
                b[0] = c[0];
                b[1] = c[1];
                if (cools != 0 && (h + 1) % cools == 0 && b[2] > 0) {
                    b[2]--;
                }
                int d = doorAt(b[0], b[1]);
                if (d >= 0 && b[2] <= reach && b[5] > 0 && t.wants[d] > 0) {
                    t.wants[d]--;
                    b[5]--;
                    b[6] += Math.max(0, price - b[2]);
                    b[2] = b[2] + 1 < layers ? b[2] + 1 : b[2];
                    b[9] = d;
                }
                t.at[i][h] = b.clone();
            }
        }
        for (int[] b : s) {
            t.money += b[6];
        }
        return t;
    }

    Trace fly() {
        return fly(0, 0);
    }

    /** All that a free shop can do, found row by row of acts. */
    final class Free {
        /** By hour: cell (100 x + 10 y + layer) to the sands with which it can be there. */
        final List<Map<Integer, Set<Integer>>> cells = new ArrayList<>();
        /** By hour, cell and sand: the first row of acts. */
        final Map<String, int[]> firstRows = new HashMap<>();
        final long[] rows = new long[hours];
        /** By set of doors that were visited (no more, no fewer): least sand, first hour (-1: at first). */
        final Map<Integer, Integer> tourSand = new TreeMap<>();
        final Map<Integer, Integer> tourHour = new TreeMap<>();
        int mostFair = 0;
        int mostAloft = 0;
        private final int[] row = new int[hours];
        private final int sand;
        private final int gas;

        Free(int shop) {
            int[] s = shops.get(shop);
            sand = s[3];
            gas = s[4];
            for (int h = 0; h < hours; h++) {
                cells.add(new TreeMap<>());
            }
            int set = visited(s[0], s[1], s[2], 0);
            noteTour(set, 0, -1);
            go(0, s[0], s[1], s[2], new int[] {0, 0, set, 0, 0});
        }

        private int visited(int x, int y, int l, int set) {
            int d = doorAt(x, y);
            return d >= 0 && l <= reach ? set | 1 << d : set;
        }

        private void noteTour(int set, int used, int hour) {
            tourSand.merge(set, used, Math::min);
            tourHour.merge(set, hour, Math::min);
        }

        /** past: sand used, gas used, doors visited, hours at the fair, hours aloft. */
        private void go(int h, int x, int y, int l, int[] past) {
            if (h == hours) {
                mostFair = Math.max(mostFair, past[3]);
                mostAloft = Math.max(mostAloft, past[4]);
                return;
            }
            for (int act = 0; act < 3; act++) {
                int[] p = past.clone();
                int nl = l;
                if (act == 1) {
                    nl++;
                    p[0]++;
                }
                if (act == 2) {
                    nl--;
                    p[1]++;
                }
                if (nl < 0 || nl >= layers || p[0] > sand || p[1] > gas) {
                    continue;
                }
                row[h] = act;
                int[] c = blow(x, y, wind[nl][h]);
                if (cools > 0 && (h + 1) % cools == 0 && nl > 0) {
                    nl--;
                }
                p[2] = visited(c[0], c[1], nl, p[2]);
                if (fair != null && h >= fair[2] && h <= fair[3] && c[0] == fair[0] && c[1] == fair[1]) {
                    p[3]++;
                }
                if (nl > 0) {
                    p[4]++;
                }
                rows[h]++;
                int cell = 100 * c[0] + 10 * c[1] + nl;
                cells.get(h).computeIfAbsent(cell, k -> new HashSet<>()).add(p[0]);
                firstRows.putIfAbsent(h + " " + cell + " " + p[0], Arrays.copyOf(row, h + 1));
                noteTour(p[2], p[0], h);
                go(h + 1, c[0], c[1], nl, p);
            }
        }

        int leastAt(int hour, int cell) {
            int least = 99;
            for (int used : cells.get(hour).getOrDefault(cell, Set.of())) {
                least = Math.min(least, used);
            }
            return least;
        }

        int soonest(int cell) {
            for (int h = 0; h < hours; h++) {
                if (cells.get(h).containsKey(cell)) {
                    return h;
                }
            }
            return -1;
        }

        int least(int cell, int startCell) {
            int least = cell == startCell ? 0 : 99;
            for (int h = 0; h < hours; h++) {
                least = Math.min(least, leastAt(h, cell));
            }
            return least == 99 ? -1 : least;
        }

        int way(int cell, int hour) {
            int h = soonest(cell);
            if (h < 0 || hour > h) {
                return -1;
            }
            return firstRows.get(h + " " + cell + " " + leastAt(h, cell))[hour];
        }

        int tour(int set) {
            int least = 99;
            for (int done : tourSand.keySet()) {
                if ((done & set) == set) {
                    least = Math.min(least, tourSand.get(done));
                }
            }
            return least == 99 ? -1 : least;
        }

        int done(int set) {
            int first = 99;
            for (int done : tourHour.keySet()) {
                if ((done & set) == set) {
                    first = Math.min(first, tourHour.get(done));
                }
            }
            return first == 99 ? -1 : first;
        }

        int columns(int hour) {
            Set<Integer> found = new HashSet<>();
            for (int cell : cells.get(hour).keySet()) {
                found.add(cell / 10);
            }
            return found.size();
        }

        int lasts() {
            int last = -1;
            for (int h = 0; h < hours; h++) {
                for (int cell : cells.get(h).keySet()) {
                    if (cell % 10 > 0) {
                        last = h;
                    }
                }
            }
            return last;
        }

        int firstNear(Free twin, int apart) {
            for (int h = 0; h < hours; h++) {
                for (int a : cells.get(h).keySet()) {
                    for (int b : twin.cells.get(h).keySet()) {
                        boolean near = Math.abs(a / 100 - b / 100) <= apart
                            && Math.abs(a / 10 % 10 - b / 10 % 10) <= apart && Math.abs(a % 10 - b % 10) <= apart;
                        if (near) {
                            return h;
                        }
                    }
                }
            }
            return -1;
        }
    }

    /** 100 x + y where a drop lies; -1 if the hours are over ahead. */
    int lands(int[] place, int hour) {
        int x = place[0], y = place[1], h = hour;
        for (int l = place[2]; l > 0; l--) {
            h++;
            if (h >= hours) {
                return -1;
            }
            int[] c = blow(x, y, wind[l][h]);
            x = c[0];
            y = c[1];
        }
        return 100 * x + y;
    }

    int drift(int x, int y, int layer, int hour, int n) {
        int[] c = {x, y};
        for (int i = 0; i < n && hour + i < hours; i++) {
            c = blow(c[0], c[1], wind[layer][hour + i]);
        }
        return 100 * c[0] + c[1];
    }
}
