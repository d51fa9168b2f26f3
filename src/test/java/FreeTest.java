/** Promises 25 to 38: what one shop can do alone, and two. */
public final class FreeTest {
    /** Layer 1 blows east, layer 2 south; shop 0 has two sand and one gas. */
    private static final String TEXT = "valley wide 4 deep 3 layers 3 hours 6 cools 0;"
        + "wind 1 from 0 east;wind 2 from 0 south;"
        + "shop at 0 0 0 sand 2 gas 1 goods 0;"
        + "shop at 3 0 0 sand 0 gas 0 goods 0;"
        + "door at 1 0 wants 0;door at 0 0 wants 0;door at 1 1 wants 0;"
        + "fair at 1 0 from 1 to 4;";
    /** Layer 1 blows west from hour 1; all cool each second hour. */
    private static final String COOL = "valley wide 2 deep 2 layers 3 hours 4 cools 2;"
        + "sells within 1 price 3;"
        + "wind 1 from 1 west;"
        + "shop at 1 0 1 sand 1 gas 0 goods 0;"
        + "door at 1 0 wants 0;door at 0 0 wants 0;";

    public static void main(String[] args) {
        cells();
        dearest();
        way();
        sizes();
        tours();
        fairAndAloft();
        pairs();
        cooled();
        planDoesNotMatter();
        wrongAsked();
        Check.finish("FreeTest");
    }

    private static void cells() {
        BalloonGrocers x = Check.told(9, TEXT);
        Check.due("least where it begins", x.least(0, 0, 0, 0), 0);
        Check.due("soonest where it begins", x.soonest(0, 0, 0, 0), 0);
        Check.due("least 1 0 1", x.least(0, 1, 0, 1), 1);
        Check.due("soonest 1 0 1", x.soonest(0, 1, 0, 1), 0);
        Check.due("least 3 0 1", x.least(0, 3, 0, 1), 1);
        Check.due("soonest 3 0 1", x.soonest(0, 3, 0, 1), 2);
        Check.due("least 1 0 0", x.least(0, 1, 0, 0), 1);
        Check.due("soonest 1 0 0", x.soonest(0, 1, 0, 0), 1);
        Check.due("least 1 1 2", x.least(0, 1, 1, 2), 2);
        Check.due("soonest 1 1 2", x.soonest(0, 1, 1, 2), 1);
        Check.due("least 0 0 1: it is blown away", x.least(0, 0, 0, 1), -1);
        Check.due("soonest 0 0 1", x.soonest(0, 0, 0, 1), -1);
        Check.due("least 1 1 0: no gas for two", x.least(0, 1, 1, 0), -1);
        Check.due("least 2 1 1", x.least(0, 2, 1, 1), 2);
        Check.due("soonest 2 1 1", x.soonest(0, 2, 1, 1), 2);
        Check.due("least of shop 1 elsewhere", x.least(1, 3, 0, 1), -1);
        Check.due("least of shop 1", x.least(1, 3, 0, 0), 0);
    }

    /** On the ground behind each hour, it pays a sand for each cell: seven to the east, two to the south. */
    private static void dearest() {
        BalloonGrocers x = Check.told(6, "valley wide 8 deep 8 layers 2 hours 24 cools 1;wind 1 from 0 east;wind 1 from 8 south;"
            + "shop at 0 0 0 sand 9 gas 0 goods 0;door at 7 2 wants 1;door at 7 3 wants 1;");
        Check.due("least 7 2 0", x.least(0, 7, 2, 0), 9);
        Check.due("soonest 7 2 0", x.soonest(0, 7, 2, 0), 9);
        Check.due("way 7 2 0 in 0", x.way(0, 7, 2, 0, 0), 0);
        Check.due("way 7 2 0 in 1", x.way(0, 7, 2, 0, 1), 1);
        Check.due("least 7 3 0", x.least(0, 7, 3, 0), -1);
        Check.due("tour of the dearest", x.tour(0, 1), 9);
        Check.due("done of the dearest", x.done(0, 1), 9);
        Check.due("doors(0, 8, 0)", x.doors(0, 8, 0), 0);
        Check.due("doors(0, 9, 0)", x.doors(0, 9, 0), 1);
        Check.due("spots(0, 23)", x.spots(0, 23), 49);
        Check.due("columns(0, 23)", x.columns(0, 23), 49);
    }

    private static void way() {
        BalloonGrocers x = Check.told(9, TEXT);
        int[][] due = {{3, 0, 1, 1, 0, 0, -1, -1, -1}, {2, 1, 1, 1, 1, 2, -1, -1, -1},
            {1, 0, 0, 1, 2, -1, -1, -1, -1}, {0, 0, 1, -1, -1, -1, -1, -1, -1},
            {0, 0, 0, 0, -1, -1, -1, -1, -1}, {3, 0, 0, 1, 0, 0, 2, -1, -1}};
        for (int[] row : due) {
            for (int h = 0; h < 6; h++) {
                Check.due("way to " + row[0] + " " + row[1] + " " + row[2] + " in " + h,
                    x.way(0, row[0], row[1], row[2], h), row[3 + h]);
            }
        }
        Check.due("way of shop 0", x.way(0, 3, 0, 0, 0), 1);
        Check.due("way of shop 1 to the same cell", x.way(1, 3, 0, 0, 0), 0);
        // By still layers a row of acts may be put off: hanging comes first.
        x = Check.told(3, "valley wide 2 deep 2 layers 5 hours 6 cools 3;wind 4 from 5 east;shop at 0 0 1 sand 9 gas 9 goods 0;");
        int[] acts = {0, 0, 1, 1, 1, 1};
        for (int h = 0; h < 6; h++) {
            Check.due("way up in " + h, x.way(0, 1, 0, 3, h), acts[h]);
        }
        Check.due("least sand of that way", x.least(0, 1, 0, 3), 4);
        // The first hour asks more sand than a later one would.
        x = Check.told(5, "valley wide 4 deep 2 layers 3 hours 4 cools 0;wind 1 from 0 still;wind 1 from 1 east;wind 2 from 0 east;"
            + "shop at 0 0 1 sand 5 gas 5 goods 0;");
        Check.due("least 1 0 1", x.least(0, 1, 0, 1), 0);
        Check.due("soonest 2 0 1", x.soonest(0, 2, 0, 1), 1);
        Check.due("least 2 0 1", x.least(0, 2, 0, 1), 0);
        Check.due("way 2 0 1 in 0", x.way(0, 2, 0, 1, 0), 1);
        Check.due("way 2 0 1 in 1", x.way(0, 2, 0, 1, 1), 2);
        Check.due("way 2 0 1 in 2", x.way(0, 2, 0, 1, 2), -1);
    }

    private static void sizes() {
        BalloonGrocers x = Check.told(9, TEXT);
        Check.due("spots(0, 0)", x.spots(0, 0), 2);
        Check.due("columns(0, 0)", x.columns(0, 0), 2);
        Check.due("ways(0, 0)", x.ways(0, 0), 2);
        Check.due("spots(0, 1)", x.spots(0, 1), 5);
        Check.due("columns(0, 1)", x.columns(0, 1), 4);
        Check.due("ways(0, 1)", x.ways(0, 1), 5);
        Check.due("spots(1, 5)", x.spots(1, 5), 1);
        Check.due("ways(1, 5)", x.ways(1, 5), 1);
        x = Check.told(2, "valley wide 2 deep 2 layers 2 hours 24 cools 1;shop at 0 0 1 sand 9 gas 9 goods 0;");
        // It is on the ground behind each hour: it rises up to nine times in 23 hours; ahead of that it hangs or sinks.
        long rows = 0;
        long choose = 1;
        for (int k = 0; k <= 9; k++) {
            rows += choose;
            choose = choose * (23 - k) / (k + 1);
        }
        Check.due("ways(0, 23)", x.ways(0, 23), 2 * rows);
        x = Check.told(2, "valley wide 2 deep 2 layers 5 hours 24 cools 0;shop at 0 0 2 sand 9 gas 9 goods 0;");
        Check.due("more ways than an int has", x.ways(0, 23) > 2147483647L ? 1 : 0, 1);
    }

    private static void tours() {
        BalloonGrocers x = Check.told(9, TEXT);
        Check.due("tour of none", x.tour(0, 0), 0);
        Check.due("done of none", x.done(0, 0), -1);
        Check.due("tour of where it is", x.tour(0, 2), 0);
        Check.due("done of where it is", x.done(0, 2), -1);
        Check.due("tour(0, 1)", x.tour(0, 1), 1);
        Check.due("done(0, 1)", x.done(0, 1), 1);
        Check.due("tour(0, 3)", x.tour(0, 3), 1);
        Check.due("done(0, 3)", x.done(0, 3), 1);
        Check.due("tour(0, 4)", x.tour(0, 4), -1);
        Check.due("done(0, 4)", x.done(0, 4), -1);
        Check.due("tour(0, 7)", x.tour(0, 7), -1);
        Check.due("tour(0, 8)", x.tour(0, 8), -2);
        Check.due("done(0, 8)", x.done(0, 8), -2);
        Check.due("tour(1, 0)", x.tour(1, 0), 0);
        Check.due("tour(1, 1)", x.tour(1, 1), -1);
        Check.due("doors(0, 0, 0)", x.doors(0, 0, 0), 1);
        Check.due("doors(0, 0, 1)", x.doors(0, 0, 1), 2);
        Check.due("doors(0, 1, 0)", x.doors(0, 1, 0), 2);
        Check.due("doors(0, 1, 1)", x.doors(0, 1, 1), 3);
        Check.due("doors(0, 9, 0)", x.doors(0, 9, 0), 2);
        Check.due("doors(1, 9, 0)", x.doors(1, 9, 0), 0);
        Check.due("doors(1, 9, 1)", x.doors(1, 9, 1), 0);
        x = Check.told(5, "valley wide 3 deep 2 layers 2 hours 2 cools 0;sells within 1 price 1;"
            + "shop at 1 0 0 sand 1 gas 0 goods 0;door at 0 0 wants 1;door at 2 0 wants 1;");
        x.turn(1, 0, 2);
        x.turn(1, 1, 4);
        Check.due("both by turning back, no", x.tour(0, 3), -1);
        Check.due("least set of one", x.doors(0, 1, 1), 1);
        Check.due("done of the first", x.done(0, 1), 1);
        Check.due("done of the second", x.done(0, 2), 0);
        x = Check.told(2, "valley wide 3 deep 2 layers 2 hours 2 cools 0;shop at 1 0 0 sand 1 gas 0 goods 0;");
        Check.due("tour without doors", x.tour(0, 0), 0);
        Check.due("tour(0, 1) without doors", x.tour(0, 1), -2);
        Check.due("doors without doors", x.doors(0, 0, 0), 0);
    }

    private static void fairAndAloft() {
        BalloonGrocers x = Check.told(9, TEXT);
        // Down at 1 0 behind hour 1, and it stays there till the fair's last hour.
        Check.due("fair(0)", x.fair(0), 4);
        Check.due("fair(1)", x.fair(1), 0);
        Check.due("aloft(0)", x.aloft(0), 6);
        Check.due("lasts(0)", x.lasts(0), 5);
        Check.due("aloft(1)", x.aloft(1), 0);
        Check.due("lasts(1)", x.lasts(1), -1);
        Check.due("fair without a fair", Check.told(2, "valley wide 3 deep 2 layers 2 hours 2 cools 0;"
            + "shop at 1 0 0 sand 1 gas 0 goods 0;").fair(0), -1);
        x = Check.told(4, "valley wide 3 deep 2 layers 2 hours 5 cools 0;fair at 0 0 from 0 to 0;fair at 1 0 from 2 to 3;"
            + "shop at 1 0 0 sand 1 gas 0 goods 0;");
        Check.due("fair of the later one", x.fair(0), 2);
    }

    private static void pairs() {
        BalloonGrocers x = Check.told(9, TEXT);
        // Shop 0 comes down to 3 0 at the end of hour 3: blown three times, then it sinks.
        Check.due("meet(0, 1)", x.meet(0, 1), 3);
        Check.due("meet(1, 0)", x.meet(1, 0), 3);
        Check.due("rope(0, 1): from 2 0 1", x.rope(0, 1), 1);
        Check.due("rope(1, 0)", x.rope(1, 0), 1);
        x = Check.told(4, "valley wide 8 deep 8 layers 5 hours 3 cools 0;shop at 7 0 0 sand 0 gas 0 goods 0;"
            + "shop at 0 1 0 sand 0 gas 0 goods 0;shop at 6 1 2 sand 0 gas 0 goods 0;");
        Check.due("rope over the valley's edge", x.rope(0, 1), -1);
        Check.due("rope over two layers", x.rope(0, 2), -1);
        Check.due("meet never", x.meet(0, 1), -1);
        x.load(0, 3, 2);
        Check.due("rope when one has sand", x.rope(0, 2), 0);
        Check.due("meet(0, 0)", x.meet(0, 0), -2);
        Check.due("rope(2, 2)", x.rope(2, 2), -2);
    }

    /**
     * From 1 0 1: hanging it is there behind hour 0, goes west in hour 1 and cools to the ground;
     * rising once it stays higher by one: cools to 1 in hour 1, goes west in hour 2, cools in hour 3.
     */
    private static void cooled() {
        BalloonGrocers x = Check.told(6, COOL);
        Check.due("least 0 0 0", x.least(0, 0, 0, 0), 0);
        Check.due("soonest 0 0 0", x.soonest(0, 0, 0, 0), 1);
        Check.due("least 0 0 1", x.least(0, 0, 0, 1), 1);
        Check.due("soonest 0 0 1", x.soonest(0, 0, 0, 1), 2);
        Check.due("least 1 0 1", x.least(0, 1, 0, 1), 0);
        Check.due("soonest 1 0 2", x.soonest(0, 1, 0, 2), 0);
        Check.due("least 1 0 0", x.least(0, 1, 0, 0), -1);
        Check.due("aloft(0)", x.aloft(0), 3);
        Check.due("lasts(0)", x.lasts(0), 2);
        Check.due("tour(0, 3)", x.tour(0, 3), 0);
        Check.due("done(0, 2)", x.done(0, 2), 1);
        Check.due("ways(0, 0)", x.ways(0, 0), 2);
        Check.due("ways(0, 3)", x.ways(0, 3), 5);
    }

    private static void planDoesNotMatter() {
        BalloonGrocers x = Check.told(9, TEXT);
        x.plan(0, 0, 1);
        x.plan(0, 1, 1);
        Check.due("least 3 0 1 by whatever plan", x.least(0, 3, 0, 1), 1);
        x.turn(1, 0, 0);
        Check.due("soonest 1 0 1 by another wind", x.soonest(0, 1, 0, 1), 1);
        Check.due("way 1 0 1 by another wind", x.way(0, 1, 0, 1, 0), 0);
        x.load(0, 3, 0);
        Check.due("least 1 0 1 without sand", x.least(0, 1, 0, 1), -1);
        Check.due("way 1 0 1 without sand", x.way(0, 1, 0, 1, 0), -1);
        Check.due("tour without sand", x.tour(0, 1), -1);
        Check.due("aloft without sand", x.aloft(0), 0);
    }

    private static void wrongAsked() {
        int[][] wrongs = {{2, 6, 4, 3, 3}, {-1, -1, -1, -1, -1}, {2147483647, 2147483647, 2147483647, 2147483647, 2147483647},
            {-2147483648, -2147483648, -2147483648, -2147483648, -2147483648}};
        for (int[] w : wrongs) {
            wrong(Check.told(9, TEXT), w);
        }
        wrong(new BalloonGrocers(), new int[5]);
    }

    /** Of each number one that is none: shop, hour, x, y, layer. */
    private static void wrong(BalloonGrocers x, int[] w) {
        int[][] cells = {{w[0], 0, 0, 0}, {0, w[2], 0, 0}, {0, 0, w[3], 0}, {0, 0, 0, w[4]}};
        for (int[] c : cells) {
            Check.due("least of none", x.least(c[0], c[1], c[2], c[3]), -2);
            Check.due("soonest of none", x.soonest(c[0], c[1], c[2], c[3]), -2);
            Check.due("way of none", x.way(c[0], c[1], c[2], c[3], 0), -2);
        }
        Check.due("way of no hour", x.way(0, 0, 0, 0, w[1]), -2);
        int[][] pairs = {{w[0], 0}, {0, w[1]}};
        for (int[] p : pairs) {
            Check.due("spots of none", x.spots(p[0], p[1]), -2);
            Check.due("columns of none", x.columns(p[0], p[1]), -2);
            Check.due("ways of none", x.ways(p[0], p[1]), -2);
        }
        Check.due("tour of no shop", x.tour(w[0], 0), -2);
        Check.due("done of no shop", x.done(w[0], 0), -2);
        Check.due("tour of no set", x.tour(0, -1), -2);
        Check.due("done of no set", x.done(0, -1), -2);
        Check.due("doors of no shop", x.doors(w[0], 0, 0), -2);
        Check.due("doors of n -1", x.doors(0, -1, 0), -2);
        Check.due("doors of n 10", x.doors(0, 10, 0), -2);
        Check.due("doors of what -1", x.doors(0, 0, -1), -2);
        Check.due("doors of what 2", x.doors(0, 0, 2), -2);
        Check.due("fair of no shop", x.fair(w[0]), -2);
        Check.due("aloft of no shop", x.aloft(w[0]), -2);
        Check.due("lasts of no shop", x.lasts(w[0]), -2);
        Check.due("meet of no shop", x.meet(w[0], 0), -2);
        Check.due("meet of no other", x.meet(0, w[0]), -2);
        Check.due("rope of no shop", x.rope(w[0], 0), -2);
        Check.due("rope of no other", x.rope(0, w[0]), -2);
    }
}
