import java.util.ArrayList;
import java.util.List;
import java.util.Random;

/** Many valleys, drawn by fixed seeds, asked of the class and of the plain model. */
public final class RandomTest {
    private static final String[] DIRS = {"still", "north", "east", "south", "west"};
    private static Random random;

    public static void main(String[] args) {
        for (int seed = 0; seed < 150; seed++) {
            random = new Random(seed);
            boolean large = seed % 5 == 4;
            Model m = new Model();
            String text = draw(m, large);
            String name = "seed " + seed + " ";
            BalloonGrocers x = Check.told(lines(text), text);
            compareAll(name, x, m);
            x = Check.told(lines(text), text);
            change(name, x, m);
            compareAll(name + "changed ", x, m);
        }
        Check.finish("RandomTest");
    }

    private static int lines(String text) {
        return text.length() - text.replace(";", "").length();
    }

    private static int below(int n) {
        return random.nextInt(n);
    }

    private static String draw(Model m, boolean large) {
        StringBuilder t = new StringBuilder();
        m.wide = large ? 8 - below(2) : 2 + below(4);
        m.deep = large ? 8 - below(2) : 2 + below(4);
        m.layers = large ? 5 : 2 + below(3);
        m.hours = large ? 8 : 1 + below(6);
        m.cools = below(3) == 0 ? 0 : below(m.hours + 2);
        t.append("valley wide " + m.wide + " deep " + m.deep + " layers " + m.layers + " hours " + m.hours
            + " cools " + m.cools + ";\n");
        drawWinds(m, t);
        if (below(4) > 0) {
            m.reach = below(m.layers);
            m.price = below(8);
            t.append("sells within " + m.reach + " price " + m.price + ";");
        }
        int shops = below(6) == 0 ? 0 : 1 + below(4);
        for (int i = 0; i < shops; i++) {
            int most = large ? 4 : 10;
            int[] s = {below(m.wide), below(m.deep), below(m.layers), below(most), below(most), below(10)};
            m.shops.add(java.util.Arrays.copyOf(s, 7));
            t.append("shop at " + s[0] + " " + s[1] + " " + s[2] + " sand " + s[3] + " gas " + s[4] + " goods " + s[5] + ";");
        }
        drawDoors(m, t);
        if (below(3) > 0) {
            int from = below(m.hours);
            m.fair = new int[] {below(m.wide), below(m.deep), from, from + below(m.hours - from)};
            t.append("fair at " + m.fair[0] + " " + m.fair[1] + " from " + from + " to " + m.fair[3] + ";");
        }
        drawPlan(m, t);
        return t.toString();
    }

    private static void drawWinds(Model m, StringBuilder t) {
        int[][] told = new int[m.layers][m.hours];
        for (int[] row : told) {
            java.util.Arrays.fill(row, -1);
        }
        for (int i = below(13); i > 0; i--) {
            int layer = 1 + below(m.layers - 1);
            int hour = below(m.hours);
            told[layer][hour] = below(5);
            t.append("wind " + layer + " from " + hour + " " + DIRS[told[layer][hour]] + ";");
        }
        m.wind = new int[m.layers][m.hours];
        for (int l = 0; l < m.layers; l++) {
            for (int h = 0; h < m.hours; h++) {
                m.wind[l][h] = told[l][h] >= 0 ? told[l][h] : h > 0 ? m.wind[l][h - 1] : 0;
            }
        }
    }

    private static void drawDoors(Model m, StringBuilder t) {
        for (int i = below(9); i > 0 && m.doors.size() < 5; i--) {
            int[] d = {below(m.wide), below(m.deep), below(10)};
            if (m.doorAt(d[0], d[1]) < 0) {
                m.doors.add(d);
                t.append("door at " + d[0] + " " + d[1] + " wants " + d[2] + ";");
            }
        }
    }

    private static void drawPlan(Model m, StringBuilder t) {
        m.plan = new int[m.shops.size()][m.hours];
        for (int i = 0; i < 12 && !m.shops.isEmpty(); i++) {
            int s = below(m.shops.size());
            int h = below(m.hours);
            m.plan[s][h] = 1 + below(2);
            t.append("plan " + s + " " + h + (m.plan[s][h] == 1 ? " rises;" : " sinks;"));
        }
    }

    private static void change(String name, BalloonGrocers x, Model m) {
        x.money();
        for (int i = 0; i < 6; i++) {
            int layer = 1 + below(m.layers - 1);
            int hour = below(m.hours);
            int wind = below(5);
            Check.due(name + "turn", x.turn(layer, hour, wind), m.wind[layer][hour]);
            m.wind[layer][hour] = wind;
            if (!m.shops.isEmpty()) {
                int shop = below(m.shops.size());
                int act = below(3);
                Check.due(name + "plan", x.plan(shop, hour, act), m.plan[shop][hour]);
                m.plan[shop][hour] = act;
                int what = 3 + below(3);
                int n = below(5);
                x.least(shop, 0, 0, 0);
                x.tour(shop, 0);
                Check.due(name + "load", x.load(shop, what, n), m.shops.get(shop)[what]);
                m.shops.get(shop)[what] = n;
            }
        }
    }

    private static void compareAll(String name, BalloonGrocers x, Model m) {
        Model.Trace t = m.fly();
        comparePlan(name, x, m, t);
        compareHours(name, x, m, t);
        compareFree(name, x, m);
        compareDrops(name, x, m, t);
        compareDrifts(name, x, m);
        compareWorth(name, x, m, t);
        compareGusts(name, x, m);
    }

    private static void comparePlan(String name, BalloonGrocers x, Model m, Model.Trace t) {
        for (int s = 0; s < m.shops.size(); s++) {
            int vain = 0;
            int[] sold = new int[m.doors.size()];
            List<Integer> hours = new ArrayList<>();
            for (int h = 0; h < m.hours; h++) {
                int[] b = t.at[s][h];
                for (int what = 0; what <= 6; what++) {
                    Check.due(name + "where " + s + " " + h + " " + what, x.where(s, h, what), b[what]);
                }
                Check.due(name + "why " + s + " " + h, x.why(s, h), b[7]);
                Check.due(name + "blown " + s + " " + h, x.blown(s, h), b[8]);
                vain += b[7] != 0 ? 1 : 0;
                if (b[9] >= 0) {
                    sold[b[9]]++;
                    hours.add(h);
                }
            }
            Check.due(name + "vain " + s, x.vain(s), vain);
            Check.due(name + "sales " + s, x.sales(s, -1), hours.size());
            for (int d = 0; d < sold.length; d++) {
                Check.due(name + "sales " + s + " " + d, x.sales(s, d), sold[d]);
            }
            for (int i = 0; i <= hours.size(); i++) {
                Check.due(name + "sold " + s + " " + i, x.sold(s, i), i < hours.size() ? hours.get(i) : -1);
            }
        }
        for (int d = 0; d < m.doors.size(); d++) {
            Check.due(name + "door " + d, x.door(d, 3), t.wants[d]);
        }
        Check.due(name + "money", x.money(), t.money);
    }

    private static void compareHours(String name, BalloonGrocers x, Model m, Model.Trace t) {
        for (int s = 0; s < m.shops.size(); s++) {
            int grounded = 0;
            for (int h = 0; h < m.hours; h++) {
                grounded |= t.at[s][h][2] == 0 ? 1 << h : 0;
            }
            Check.due(name + "grounded " + s, x.grounded(s), grounded);
            for (int o = 0; o < m.shops.size(); o++) {
                int bits = 0;
                for (int h = 0; h < m.hours; h++) {
                    int[] a = t.at[s][h];
                    int[] b = t.at[o][h];
                    bits |= a[0] == b[0] && a[1] == b[1] && a[2] == b[2] ? 1 << h : 0;
                }
                Check.due(name + "meets " + s + " " + o, x.meets(s, o), s == o ? -2 : bits);
            }
            for (int i = 0; i < m.wide * m.deep; i++) {
                int bits = 0;
                for (int h = 0; h < m.hours; h++) {
                    int[] a = t.at[s][h];
                    bits |= a[0] == i % m.wide && a[1] == i / m.wide ? 1 << h : 0;
                }
                Check.due(name + "over " + s + " " + i, x.over(s, i % m.wide, i / m.wide), bits);
            }
        }
    }

    private static void compareFree(String name, BalloonGrocers x, Model m) {
        List<Model.Free> all = new ArrayList<>();
        for (int s = 0; s < m.shops.size(); s++) {
            Model.Free f = m.new Free(s);
            all.add(f);
            compareCells(name + "shop " + s + " ", x, m, f, s);
            for (int h = 0; h < m.hours; h++) {
                Check.due(name + "spots " + s + " " + h, x.spots(s, h), f.cells.get(h).size());
                Check.due(name + "columns " + s + " " + h, x.columns(s, h), f.columns(h));
                Check.due(name + "ways " + s + " " + h, x.ways(s, h), f.rows[h]);
            }
            compareTours(name + "shop " + s + " ", x, m, f, s);
            Check.due(name + "fair " + s, x.fair(s), m.fair == null ? -1 : f.mostFair);
            Check.due(name + "aloft " + s, x.aloft(s), f.mostAloft);
            Check.due(name + "lasts " + s, x.lasts(s), f.lasts());
        }
        for (int a = 0; a < all.size(); a++) {
            for (int b = 0; b < all.size(); b++) {
                Check.due(name + "meet " + a + " " + b, x.meet(a, b), a == b ? -2 : all.get(a).firstNear(all.get(b), 0));
                Check.due(name + "rope " + a + " " + b, x.rope(a, b), a == b ? -2 : all.get(a).firstNear(all.get(b), 1));
            }
        }
    }

    private static void compareCells(String name, BalloonGrocers x, Model m, Model.Free f, int s) {
        int[] b = m.shops.get(s);
        for (int cx = 0; cx < m.wide; cx++) {
            for (int cy = 0; cy < m.deep; cy++) {
                for (int l = 0; l < m.layers; l++) {
                    int cell = 100 * cx + 10 * cy + l;
                    int start = 100 * b[0] + 10 * b[1] + b[2];
                    Check.due(name + "least " + cell, x.least(s, cx, cy, l), f.least(cell, start));
                    Check.due(name + "soonest " + cell, x.soonest(s, cx, cy, l), f.soonest(cell));
                    for (int h = 0; h < m.hours; h++) {
                        Check.due(name + "way " + cell + " " + h, x.way(s, cx, cy, l, h), f.way(cell, h));
                    }
                }
            }
        }
    }

    private static void compareTours(String name, BalloonGrocers x, Model m, Model.Free f, int s) {
        int sets = 1 << m.doors.size();
        for (int set = 0; set < sets; set++) {
            Check.due(name + "tour " + set, x.tour(s, set), f.tour(set));
            Check.due(name + "done " + set, x.done(s, set), f.done(set));
        }
        for (int n = 0; n <= 9; n++) {
            int best = 0;
            for (int set = 0; set < sets; set++) {
                boolean can = f.tour(set) >= 0 && f.tour(set) <= n;
                if (can && Integer.bitCount(set) > Integer.bitCount(best)) {
                    best = set;
                }
            }
            Check.due(name + "doors " + n + " 0", x.doors(s, n, 0), Integer.bitCount(best));
            Check.due(name + "doors " + n + " 1", x.doors(s, n, 1), best);
        }
    }

    private static void compareDrops(String name, BalloonGrocers x, Model m, Model.Trace t) {
        for (int i = 0; i < m.wide * m.deep; i++) {
            int cx = i % m.wide;
            int cy = i / m.wide;
            int who = 0;
            int first = -1;
            int suspects = 0;
            for (int s = m.shops.size() - 1; s >= 0; s--) {
                for (int h = m.hours - 1; h >= 0; h--) {
                    if (t.at[s][h][2] > 0 && m.lands(t.at[s][h], h) == 100 * cx + cy) {
                        who++;
                        first = 100 * s + h;
                        suspects |= 1 << s;
                    }
                }
            }
            Check.due(name + "who " + i, x.who(cx, cy), who);
            Check.due(name + "first " + i, x.first(cx, cy), first);
            Check.due(name + "suspects " + i, x.suspects(cx, cy), suspects);
        }
        for (int s = 0; s < m.shops.size(); s++) {
            for (int h = 0; h < m.hours; h++) {
                Check.due(name + "lands " + s + " " + h, x.lands(s, h), m.lands(t.at[s][h], h));
            }
        }
    }

    private static void compareDrifts(String name, BalloonGrocers x, Model m) {
        for (int i = 0; i < 60; i++) {
            int cx = below(m.wide);
            int cy = below(m.deep);
            int l = below(m.layers);
            int h = below(m.hours);
            int n = i % 4 == 0 ? below(25) : below(4);
            Check.due(name + "drift", x.drift(cx, cy, l, h, n), m.drift(cx, cy, l, h, n));
            int from = -1;
            for (int c = 0; c < m.wide * m.deep; c++) {
                int code = 100 * (c % m.wide) + c / m.wide;
                if (m.drift(c % m.wide, c / m.wide, l, h, n) == 100 * cx + cy && (from < 0 || code < from)) {
                    from = code;
                }
            }
            Check.due(name + "whence", x.whence(cx, cy, l, h, n), from);
        }
    }

    private static void compareWorth(String name, BalloonGrocers x, Model m, Model.Trace t) {
        int best = -1;
        int most = 0;
        for (int s = 0; s < m.shops.size(); s++) {
            for (int h = 0; h < m.hours; h++) {
                int was = m.plan[s][h];
                for (int act = 0; act < 3; act++) {
                    m.plan[s][h] = act;
                    int gain = m.fly().money - t.money;
                    Check.due(name + "worth " + s + " " + h + " " + act, x.worth(s, h, act), gain);
                    if (gain > most) {
                        most = gain;
                        best = 1000 * s + 10 * h + act;
                    }
                }
                m.plan[s][h] = was;
            }
        }
        Check.due(name + "best", x.best(), best);
        int cools = m.cools;
        m.cools = 0;
        Check.due(name + "other(0)", x.other(0), m.fly().money - t.money);
        m.cools = cools;
        int[][] wind = m.wind;
        m.wind = new int[m.layers][m.hours];
        Check.due(name + "other(1)", x.other(1), m.fly().money - t.money);
        m.wind = wind;
        int reach = m.reach;
        m.reach = Math.min(reach + 1, m.layers - 1);
        Check.due(name + "other(2)", x.other(2), m.fly().money - t.money);
        m.reach = reach;
        for (int what = 3; what <= 4; what++) {
            for (int[] shop : m.shops) {
                shop[what]++;
            }
            Check.due(name + "other(" + what + ")", x.other(what), m.fly().money - t.money);
            for (int[] shop : m.shops) {
                shop[what]--;
            }
        }
    }

    private static void compareGusts(String name, BalloonGrocers x, Model m) {
        for (int i = 0; i < 8; i++) {
            int seed = below(2000000001);
            int odds = below(101);
            Model.Trace t = m.fly(seed, odds);
            Check.due(name + "takings", x.takings(seed, odds), t.money);
            for (int s = 0; s < m.shops.size(); s++) {
                for (int h = 0; h < m.hours; h++) {
                    int[] b = t.at[s][h];
                    Check.due(name + "gust", x.gust(seed, odds, s, h), 100 * b[0] + 10 * b[1] + b[2]);
                }
                int n = 1 + below(20);
                int[] goal = t.at[s][m.hours - 1];
                int hits = 0;
                for (int k = 0; k < n; k++) {
                    int[] b = m.fly((long) seed + k, odds).at[s][m.hours - 1];
                    hits += b[0] == goal[0] && b[1] == goal[1] ? 1 : 0;
                }
                Check.due(name + "chance", x.chance(seed, n, odds, s, goal[0], goal[1]), hits);
            }
        }
    }
}
