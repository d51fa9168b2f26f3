/** Promises 49 to 56: what another act brings, another valley, loads, winds, and gusts. */
public final class WorthTest {
    /**
     * Shop 0 stands at 0 0 beside the door at 1 0; layer 1 blows east. Rising in hour 0 it is over the door
     * and within reach: it sells for 4. Shop 1 stands at the door at 0 2 and sells at once for 5, then hangs
     * in layer 1, is blown off in hour 1, cools to the ground behind hour 2.
     */
    private static final String TEXT = "valley wide 3 deep 3 layers 3 hours 4 cools 3;"
        + "sells within 1 price 5;"
        + "wind 1 from 0 east;"
        + "shop at 0 0 0 sand 1 gas 0 goods 1;"
        + "shop at 0 2 0 sand 0 gas 1 goods 2;"
        + "door at 1 0 wants 1;door at 0 2 wants 2;";

    public static void main(String[] args) {
        worth();
        best();
        other();
        load();
        turn();
        gusts();
        wrongAsked();
        Check.finish("WorthTest");
    }

    private static void worth() {
        BalloonGrocers x = Check.told(7, TEXT);
        Check.due("money()", x.money(), 5);
        Check.due("worth(0, 0, 1)", x.worth(0, 0, 1), 4);
        Check.due("worth(0, 3, 1)", x.worth(0, 3, 1), 4);
        Check.due("worth(0, 0, 2): in vain", x.worth(0, 0, 2), 0);
        Check.due("worth(0, 0, 0): as it is", x.worth(0, 0, 0), 0);
        Check.due("worth(1, 1, 2): it comes down and sells again", x.worth(1, 1, 2), 5);
        Check.due("money() stays", x.money(), 5);
        Check.due("act(1, 1) stays", x.act(1, 1), 0);
        x.plan(1, 1, 2);
        Check.due("money() by the change", x.money(), 10);
        Check.due("worth(1, 1, 0): less", x.worth(1, 1, 0), -5);
        Check.due("count(11)", x.count(11), 1);
    }

    private static void best() {
        BalloonGrocers x = Check.told(7, TEXT);
        // Rising in hour 2 shop 0 cools to the door and sells for 5, as shop 1 would by 1012: the first of both.
        Check.due("worth(0, 2, 1)", x.worth(0, 2, 1), 5);
        Check.due("best()", x.best(), 21);
        x.plan(0, 2, 1);
        Check.due("best() then", x.best(), 1012);
        x.plan(1, 1, 2);
        Check.due("best() when none brings more", x.best(), -1);
        Check.due("best() without shops", Check.told(1, "valley wide 3 deep 3 layers 3 hours 4 cools 3;").best(), -1);
        Check.due("best() without a valley", new BalloonGrocers().best(), -2);
    }

    private static void other() {
        BalloonGrocers x = Check.told(7, TEXT);
        Check.due("other(0)", x.other(0), 0);
        // Without wind shop 1 stays over its door in layer 1 and sells again for 4.
        Check.due("other(1)", x.other(1), 4);
        Check.due("other(2)", x.other(2), 0);
        Check.due("other(3)", x.other(3), 0);
        Check.due("other(4)", x.other(4), 0);
        x.plan(1, 1, 1);
        x.load(1, 4, 0);
        x.load(1, 5, 9);
        // In layer 1 with sand for a rise: in hour 1 it is in layer 2 above its door.
        Check.due("other(3) with a plan to rise", x.other(3), 4);
        x.plan(1, 1, 2);
        Check.due("other(4) with a plan to sink", x.other(4), 5);
        x = Check.told(5, "valley wide 2 deep 2 layers 3 hours 2 cools 1;sells within 1 price 7;"
            + "shop at 0 0 2 sand 9 gas 9 goods 3;door at 0 0 wants 9;plan 0 1 rises;");
        // Cooling: sells in layer 1 for 6, is in 2, can't rise, cools, sells for 6 again.
        Check.due("money() where it cools", x.money(), 12);
        Check.due("other(0) where it cools", x.other(0), -12);
        Check.due("other(2)", x.other(2), 0);
        Check.due("other(3) with nine", x.other(3), 0);
        x = Check.told(4, "valley wide 2 deep 2 layers 3 hours 2 cools 0;sells within 1 price 7;"
            + "shop at 0 0 2 sand 9 gas 9 goods 3;door at 0 0 wants 9;");
        Check.due("other(2) to the top", x.other(2), 10);
        x = Check.told(4, "valley wide 2 deep 2 layers 3 hours 2 cools 0;sells within 2 price 7;"
            + "shop at 0 0 2 sand 9 gas 9 goods 3;door at 0 0 wants 9;");
        Check.due("other(2) at the top", x.other(2), 0);
        Check.due("count(5) stays", x.count(5), 2);
        Check.due("other(-1)", x.other(-1), -1000000);
        Check.due("other(5)", x.other(5), -1000000);
        Check.due("other(1) without shops", Check.told(1, "valley wide 3 deep 3 layers 3 hours 4 cools 3;").other(1), 0);
        Check.due("other(0) without a valley", new BalloonGrocers().other(0), -1000000);
    }

    private static void load() {
        BalloonGrocers x = Check.told(7, TEXT);
        Check.due("money()", x.money(), 5);
        Check.due("load(1, 5, 0)", x.load(1, 5, 0), 2);
        Check.due("money() without goods", x.money(), 0);
        Check.due("shop(1, 5)", x.shop(1, 5), 0);
        Check.due("load(1, 5, 9)", x.load(1, 5, 9), 0);
        Check.due("load(0, 3, 4)", x.load(0, 3, 4), 1);
        Check.due("load(0, 4, 5)", x.load(0, 4, 5), 0);
        Check.due("where(0, 0, 3)", x.where(0, 0, 3), 4);
        Check.due("where(0, 0, 4)", x.where(0, 0, 4), 5);
        Check.due("no change by plan()", x.count(11), 0);
        Check.due("load of what 2", x.load(0, 2, 1), -2);
        Check.due("load of what 6", x.load(0, 6, 1), -2);
        Check.due("load of n 10", x.load(0, 3, 10), -2);
        Check.due("load of n -1", x.load(0, 3, -1), -2);
        Check.due("shop(0, 3) stays", x.shop(0, 3), 4);
    }

    private static void turn() {
        BalloonGrocers x = Check.told(7, TEXT);
        Check.due("where(1, 3, 0)", x.where(1, 3, 0), 2);
        Check.due("turn(1, 1, 0)", x.turn(1, 1, 0), 2);
        Check.due("wind(1, 1)", x.wind(1, 1), 0);
        Check.due("wind(1, 2)", x.wind(1, 2), 2);
        Check.due("where(1, 1, 0)", x.where(1, 1, 0), 0);
        Check.due("turn(1, 1, 4)", x.turn(1, 1, 4), 0);
        Check.due("turn(0, 1, 4)", x.turn(0, 1, 4), -2);
        Check.due("turn(3, 1, 4)", x.turn(3, 1, 4), -2);
        Check.due("turn(1, 4, 4)", x.turn(1, 4, 4), -2);
        Check.due("turn(1, -1, 4)", x.turn(1, -1, 4), -2);
        Check.due("turn(1, 1, 5)", x.turn(1, 1, 5), -2);
        Check.due("turn(1, 1, -1)", x.turn(1, 1, -1), -2);
        Check.due("wind(1, 1) stays", x.wind(1, 1), 4);
    }

    /**
     * From seed 1 the first draws are 38, 58, 13, 15, 51, 27 (x: 1103527590, 2524885223 modulo .., as
     * the well known row has them: 16838, 5758, 10113, 17515, 31051, 5627, each modulo 100).
     */
    private static void gusts() {
        BalloonGrocers x = Check.told(5, "valley wide 8 deep 8 layers 3 hours 3 cools 0;"
            + "wind 1 from 0 east;wind 2 from 0 south;"
            + "shop at 0 0 1 sand 0 gas 0 goods 0;shop at 0 0 2 sand 0 gas 0 goods 0;");
        // Layer 1 draws 38, 13, 51; layer 2 draws 58, 15, 27.
        Check.due("gust(1, 0, 0, 2)", x.gust(1, 0, 0, 2), 301);
        Check.due("gust(1, 100, 0, 2)", x.gust(1, 100, 0, 2), 601);
        Check.due("gust(1, 38, 0, 0)", x.gust(1, 38, 0, 0), 101);
        Check.due("gust(1, 39, 0, 0)", x.gust(1, 39, 0, 0), 201);
        Check.due("gust(1, 39, 0, 1)", x.gust(1, 39, 0, 1), 401);
        Check.due("gust(1, 39, 0, 2)", x.gust(1, 39, 0, 2), 501);
        Check.due("gust(1, 16, 1, 2)", x.gust(1, 16, 1, 2), 42);
        Check.due("gust(1, 28, 1, 2)", x.gust(1, 28, 1, 2), 52);
        Check.due("gust(1, 59, 1, 2)", x.gust(1, 59, 1, 2), 62);
        Check.due("blown() is without gusts", x.where(0, 2, 0), 3);
        Check.due("chance of one", x.chance(1, 1, 39, 0, 5, 0), 1);
        Check.due("chance at odds 0", x.chance(1, 20, 0, 0, 3, 0), 20);
        Check.due("chance at odds 100", x.chance(2000000000, 20, 100, 0, 6, 0), 20);
        Check.due("chance elsewhere", x.chance(1, 20, 100, 0, 3, 0), 0);
        int sum = 0;
        for (int i = 0; i < 20; i++) {
            sum += x.gust(7 + i, 40, 1, 2) / 10 == 4 ? 1 : 0;
        }
        Check.due("chance of twenty", x.chance(7, 20, 40, 1, 0, 4), sum);
        edges();
        takings();
    }

    private static void edges() {
        BalloonGrocers x = Check.told(3, "valley wide 2 deep 2 layers 2 hours 2 cools 2;wind 1 from 0 south;shop at 1 0 1 sand 0 gas 0 goods 0;");
        Check.due("the second where it can", x.gust(0, 100, 0, 0), 111);
        Check.due("it cools", x.gust(0, 100, 0, 1), 110);
        Check.due("seed 2,000,000,000", x.gust(2000000000, 100, 0, 0), 111);
        Check.due("seed -1", x.gust(-1, 100, 0, 0), -2);
        Check.due("seed 2,000,000,001", x.gust(2000000001, 100, 0, 0), -2);
        Check.due("odds -1", x.gust(0, -1, 0, 0), -2);
        Check.due("odds 101", x.gust(0, 101, 0, 0), -2);
    }

    private static void takings() {
        BalloonGrocers x = Check.told(5, "valley wide 4 deep 2 layers 2 hours 1 cools 0;sells within 1 price 3;"
            + "wind 1 from 0 east;shop at 0 0 1 sand 0 gas 0 goods 1;door at 2 0 wants 1;");
        Check.due("money()", x.money(), 0);
        Check.due("takings(1, 38)", x.takings(1, 38), 0);
        Check.due("takings(1, 39)", x.takings(1, 39), 2);
        Check.due("money() stays", x.money(), 0);
        Check.due("takings(-1, 0)", x.takings(-1, 0), -2);
        Check.due("takings(2000000001, 0)", x.takings(2000000001, 0), -2);
        Check.due("takings(0, -1)", x.takings(0, -1), -2);
        Check.due("takings(0, 101)", x.takings(0, 101), -2);
        Check.due("takings without shops", Check.told(1, "valley wide 3 deep 3 layers 3 hours 4 cools 3;").takings(0, 0), 0);
    }

    private static void wrongAsked() {
        int[][] wrongs = {{2, 4, 3, 3, 3}, {-1, -1, -1, -1, -1}, {2147483647, 2147483647, 3, 2147483647, 2147483647},
            {-2147483648, -2147483648, -3, -2147483648, -2147483648}};
        for (int[] w : wrongs) {
            wrong(Check.told(7, TEXT), w);
        }
        wrong(new BalloonGrocers(), new int[5]);
        Check.due("takings without a valley", new BalloonGrocers().takings(0, 0), -2);
    }

    /** Of each number one that is none: shop, hour, act, x, y. */
    private static void wrong(BalloonGrocers x, int[] w) {
        Check.due("worth of no shop", x.worth(w[0], 0, 0), -1000000);
        Check.due("worth of no hour", x.worth(0, w[1], 0), -1000000);
        Check.due("worth of no act", x.worth(0, 0, w[2]), -1000000);
        Check.due("load of no shop", x.load(w[0], 3, 0), -2);
        Check.due("turn of no hour", x.turn(1, w[1], 0), -2);
        Check.due("gust of no shop", x.gust(0, 0, w[0], 0), -2);
        Check.due("gust of no hour", x.gust(0, 0, 0, w[1]), -2);
        Check.due("chance of no shop", x.chance(0, 1, 0, w[0], 0, 0), -2);
        Check.due("chance of no x", x.chance(0, 1, 0, 0, w[3], 0), -2);
        Check.due("chance of no y", x.chance(0, 1, 0, 0, 0, w[4]), -2);
        Check.due("chance of n 0", x.chance(0, 0, 0, 0, 0, 0), -2);
        Check.due("chance of n 21", x.chance(0, 21, 0, 0, 0, 0), -2);
        Check.due("chance of seed -1", x.chance(-1, 1, 0, 0, 0, 0), -2);
        Check.due("chance of odds 101", x.chance(0, 1, 101, 0, 0, 0), -2);
    }
}
