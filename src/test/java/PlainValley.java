import java.util.ArrayList;
import java.util.HashMap;
import java.util.HashSet;
import java.util.List;
import java.util.Map;
import java.util.Set;
import java.util.function.BiPredicate;

/** A valley by the terms II to V in their plainest form; every answer is worked out anew. */
final class PlainValley {
    static final List<String> WINDS = List.of("still", "north", "east", "south", "west");
    private static final int[] EAST = {0, 0, 1, 0, -1};
    private static final int[] SOUTH = {0, -1, 0, 1, 0};

    int lines;
    int wide;
    int deep;
    int layers;
    int hours;
    int cools;
    int reach;
    int price = 9;
    /** By layer and hour. */
    int[][] wind;
    /** x, y, layer, sand, gas, goods, money. */
    final List<int[]> shops = new ArrayList<>();
    /** x, y, wants. */
    final List<int[]> doors = new ArrayList<>();
    /** x, y, from, to; null without one. */
    int[] fair;
    /** By shop and hour. */
    int[][] plan;
    /** Shop, hour, act, what it was. */
    final List<int[]> changes = new ArrayList<>();

    PlainValley copy() {
        PlainValley twin = new PlainValley();
        twin.lines = lines;
        twin.wide = wide;
        twin.deep = deep;
        twin.layers = layers;
        twin.hours = hours;
        twin.cools = cools;
        twin.reach = reach;
        twin.price = price;
        twin.wind = copyOf(wind);
        shops.forEach(shop -> twin.shops.add(shop.clone()));
        doors.forEach(door -> twin.doors.add(door.clone()));
        twin.fair = fair;
        twin.plan = copyOf(plan);
        twin.changes.addAll(changes);
        return twin;
    }

    private static int[][] copyOf(int[][] table) {
        int[][] twin = new int[table.length][];
        for (int i = 0; i < table.length; i++) {
            twin[i] = table[i].clone();
        }
        return twin;
    }

    boolean hasColumn(int x, int y) {
        return x >= 0 && y >= 0 && x < wide && y < deep;
    }

    /** Where a wind carries from a column; the same column if the valley ends there. */
    int[] carried(int x, int y, int dir) {
        int[] to = {x + EAST[dir], y + SOUTH[dir]};
        return hasColumn(to[0], to[1]) ? to : new int[] {x, y};
    }

    private int cooled(int layer, int hour) {
        return cools > 0 && (hour + 1) % cools == 0 && layer > 0 ? layer - 1 : layer;
    }

    /** What came of a plan, by shop and hour. */
    static final class Log {
        int[][][] behind;
        int[][] why;
        int[][] blown;
        /** The door of the sale, -1 without one. */
        int[][] door;
        int[] wants;

        int money() {
            int sum = 0;
            for (int[][] hours : behind) {
                sum += hours[hours.length - 1][6];
            }
            return sum;
        }
    }

    Log fly() {
        return fly(0, 0);
    }

    Log fly(int seed, int odds) {
        Log log = new Log();
        log.behind = new int[shops.size()][hours][];
        log.why = new int[shops.size()][hours];
        log.blown = new int[shops.size()][hours];
        log.door = new int[shops.size()][hours];
        log.wants = doors.stream().mapToInt(door -> door[2]).toArray();
        List<int[]> now = copy().shops;
        long x = seed;
        for (int hour = 0; hour < hours; hour++) {
            int[] cells = new int[layers];
            for (int layer = 1; layer < layers; layer++) {
                x = Math.floorMod(1103515245L * x + 12345L, 2147483648L);
                cells[layer] = x / 65536 % 100 < odds ? 2 : 1;
            }
            for (int shop = 0; shop < now.size(); shop++) {
                flyHour(log, now.get(shop), shop, hour, cells);
                log.behind[shop][hour] = now.get(shop).clone();
            }
        }
        return log;
    }

    private void flyHour(Log log, int[] it, int shop, int hour, int[] cells) {
        int act = plan[shop][hour];
        log.why[shop][hour] = why(it, act);
        if (act == 1 && log.why[shop][hour] == 0) {
            it[2]++;
            it[3]--;
        }
        if (act == 2 && log.why[shop][hour] == 0) {
            it[2]--;
            it[4]--;
        }
        int dir = wind[it[2]][hour];
        for (int i = cells[it[2]]; i > 0; i--) {
            int[] to = carried(it[0], it[1], dir);
            log.blown[shop][hour] |= to[0] != it[0] || to[1] != it[1] ? 1 : 0;
            it[0] = to[0];
            it[1] = to[1];
        }
        it[2] = cooled(it[2], hour);
        log.door[shop][hour] = -1;
        for (int door = 0; door < doors.size(); door++) {
            boolean there = doors.get(door)[0] == it[0] && doors.get(door)[1] == it[1];
            if (there && it[2] <= reach && it[5] > 0 && log.wants[door] > 0) {
                log.wants[door]--;
                it[5]--;
                it[6] += Math.max(0, price - it[2]);
                it[2] = Math.min(it[2] + 1, layers - 1);
                log.door[shop][hour] = door;
            }
        }
    }

    private int why(int[] it, int act) {
        if (act == 1) {
            return it[2] == layers - 1 ? 3 : it[3] == 0 ? 1 : 0;
        }
        if (act == 2) {
            return it[2] == 0 ? 4 : it[4] == 0 ? 2 : 0;
        }
        return 0;
    }

    /** Where a free shop is, and what it has spent. */
    record Place(int x, int y, int layer, int sand, int gas) {
        int cell() {
            return 100 * x + 10 * y + layer;
        }

        int column() {
            return 100 * x + y;
        }
    }

    Place start(int shop) {
        int[] it = shops.get(shop);
        return new Place(it[0], it[1], it[2], 0, 0);
    }

    /** Null if the act is in vain. */
    Place next(int shop, Place from, int hour, int act) {
        int layer = from.layer + (act == 1 ? 1 : act == 2 ? -1 : 0);
        int sand = from.sand + (act == 1 ? 1 : 0);
        int gas = from.gas + (act == 2 ? 1 : 0);
        if (layer < 0 || layer >= layers || sand > shops.get(shop)[3] || gas > shops.get(shop)[4]) {
            return null;
        }
        int[] to = carried(from.x, from.y, wind[layer][hour]);
        return new Place(to[0], to[1], cooled(layer, hour), sand, gas);
    }

    /** By hour all places at its end. */
    List<Set<Place>> places(int shop) {
        List<Set<Place>> all = new ArrayList<>();
        Set<Place> now = Set.of(start(shop));
        for (int hour = 0; hour < hours; hour++) {
            Set<Place> then = new HashSet<>();
            for (Place from : now) {
                for (int act = 0; act < 3; act++) {
                    Place to = next(shop, from, hour, act);
                    if (to != null) {
                        then.add(to);
                    }
                }
            }
            all.add(then);
            now = then;
        }
        return all;
    }

    int soonest(int shop, int cell) {
        List<Set<Place>> all = places(shop);
        for (int hour = 0; hour < hours; hour++) {
            if (leastIn(all.get(hour), cell) >= 0) {
                return hour;
            }
        }
        return -1;
    }

    /** The least sand in some of the places with which it is in a cell; -1 if it is in none. */
    static int leastIn(Set<Place> places, int cell) {
        return places.stream().filter(place -> place.cell() == cell).mapToInt(Place::sand).min().orElse(-1);
    }

    /** The first row of acts to a cell at the end of the first hour with the least sand; null if there is none. */
    int[] way(int shop, int cell) {
        int last = soonest(shop, cell);
        if (last < 0) {
            return null;
        }
        int sand = leastIn(places(shop).get(last), cell);
        int[] row = new int[last + 1];
        return leads(shop, start(shop), 0, row, cell, sand, new HashSet<>()) ? row : null;
    }

    private boolean leads(int shop, Place from, int hour, int[] row, int cell, int sand, Set<String> blind) {
        if (hour == row.length) {
            return from.cell() == cell && from.sand == sand;
        }
        for (int act = 0; act < 3; act++) {
            Place to = next(shop, from, hour, act);
            row[hour] = act;
            if (to != null && !blind.contains(hour + "" + to) && leads(shop, to, hour + 1, row, cell, sand, blind)) {
                return true;
            }
            blind.add(hour + "" + to);
        }
        return false;
    }

    long ways(int shop, int last) {
        Map<Place, Long> now = Map.of(start(shop), 1L);
        for (int hour = 0; hour <= last; hour++) {
            Map<Place, Long> then = new HashMap<>();
            for (Place from : now.keySet()) {
                for (int act = 0; act < 3; act++) {
                    Place to = next(shop, from, hour, act);
                    if (to != null) {
                        then.merge(to, now.get(from), Long::sum);
                    }
                }
            }
            now = then;
        }
        return now.values().stream().mapToLong(Long::longValue).sum();
    }

    /** The most hours at whose end something holds. */
    int mostHours(int shop, BiPredicate<Place, Integer> holds) {
        Map<Place, Integer> now = Map.of(start(shop), 0);
        for (int hour = 0; hour < hours; hour++) {
            Map<Place, Integer> then = new HashMap<>();
            for (Place from : now.keySet()) {
                for (int act = 0; act < 3; act++) {
                    Place to = next(shop, from, hour, act);
                    if (to != null) {
                        then.merge(to, now.get(from) + (holds.test(to, hour) ? 1 : 0), Math::max);
                    }
                }
            }
            now = then;
        }
        return now.values().stream().mapToInt(Integer::intValue).max().orElse(0);
    }

    private record Visit(Place place, int set) {
    }

    private Visit visit(Place place, int set) {
        for (int door = 0; door < doors.size(); door++) {
            if (doors.get(door)[0] == place.x && doors.get(door)[1] == place.y && place.layer <= reach) {
                return new Visit(place, set | 1 << door);
            }
        }
        return new Visit(place, set);
    }

    /** By set of doors: the least sand and the first hour (-1: at first) with which it has been at all of them; 99 for never. */
    int[][] tours(int shop) {
        int[][] best = new int[1 << doors.size()][];
        for (int set = 0; set < best.length; set++) {
            best[set] = new int[] {99, 99};
        }
        Set<Visit> now = Set.of(visit(start(shop), 0));
        noteTours(best, now, -1);
        for (int hour = 0; hour < hours; hour++) {
            Set<Visit> then = new HashSet<>();
            for (Visit from : now) {
                for (int act = 0; act < 3; act++) {
                    Place to = next(shop, from.place, hour, act);
                    if (to != null) {
                        then.add(visit(to, from.set));
                    }
                }
            }
            noteTours(best, then, hour);
            now = then;
        }
        return best;
    }

    private static void noteTours(int[][] best, Set<Visit> visits, int hour) {
        for (Visit visit : visits) {
            for (int set = visit.set;; set = set - 1 & visit.set) {
                best[set][0] = Math.min(best[set][0], visit.place.sand);
                best[set][1] = Math.min(best[set][1], hour);
                if (set == 0) {
                    break;
                }
            }
        }
    }

    /** The first hour at whose end two free shops can be no more than so far apart. */
    int together(int shop, int twin, int apart) {
        List<Set<Place>> mine = places(shop);
        List<Set<Place>> yours = places(twin);
        for (int hour = 0; hour < hours; hour++) {
            Set<Integer> cells = new HashSet<>();
            mine.get(hour).forEach(place -> cells.add(place.cell()));
            for (Place place : yours.get(hour)) {
                for (int cell : cells) {
                    boolean near = Math.abs(cell / 100 - place.x) <= apart && Math.abs(cell / 10 % 10 - place.y) <= apart;
                    if (near && Math.abs(cell % 10 - place.layer) <= apart) {
                        return hour;
                    }
                }
            }
        }
        return -1;
    }

    /** 100 x + y where a drop lies; -1 if the hours are over ahead. */
    int lies(int[] from, int hour) {
        int[] place = {from[0], from[1]};
        for (int layer = from[2]; layer > 0; layer--) {
            int then = hour + 1 + from[2] - layer;
            if (then >= hours) {
                return -1;
            }
            place = carried(place[0], place[1], wind[layer][then]);
        }
        return 100 * place[0] + place[1];
    }

    int drift(int x, int y, int layer, int from, int n) {
        int[] place = {x, y};
        for (int hour = from; hour < hours && hour < from + n; hour++) {
            place = carried(place[0], place[1], wind[layer][hour]);
        }
        return 100 * place[0] + place[1];
    }
}
