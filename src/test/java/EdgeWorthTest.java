import java.util.function.IntToLongFunction;

/** The boundary cases of term V and of promises 49 to 56, sentence by sentence. */
public final class EdgeWorthTest {
    private static final int SEED = 2000000000;
    /** Shop 0 stands beside the door at 1 0; shop 1 stands at the door at 0 2 and sells at once, then hangs in layer 1. */
    private static final String TEXT = "valley wide 3 deep 3 layers 3 hours 4 cools 3;sells within 1 price 5;wind 1 from 0 east;"
        + "shop at 0 0 0 sand 1 gas 0 goods 1;shop at 0 2 0 sand 0 gas 1 goods 2;door at 1 0 wants 1;door at 0 2 wants 2;";
    private static final String STILL = "valley wide 2 deep 2 layers 3 hours 3 cools 0;";

    public static void main(String[] args) {
        draws();
        layerByLayer();
        belowOdds();
        secondCell();
        worth();
        best();
        other();
        otherReach();
        load();
        turn();
        gust();
        chance();
        takings();
        Check.finish("EdgeWorthTest");
    }

    private static void refusedBeyond(String call, IntToLongFunction ask, int least, int most) {
        Check.bounds(call, ask, least, most, -2);
    }

    /** The first draws of a seed, by whole numbers that are large enough. */
    private static int[] drawn(long seed, int n) {
        java.math.BigInteger x = java.math.BigInteger.valueOf(seed);
        int[] due = new int[n];
        for (int i = 0; i < n; i++) {
            x = x.multiply(java.math.BigInteger.valueOf(1103515245)).add(java.math.BigInteger.valueOf(12345)).mod(java.math.BigInteger.ONE.shiftLeft(31));
            due[i] = x.divide(java.math.BigInteger.valueOf(65536)).mod(java.math.BigInteger.valueOf(100)).intValue();
        }
        return due;
    }

    /** A shop in the wind of layer 1 of two; in each hour it goes east by one, by two in a gust. */
    private static BalloonGrocers lane(int hours) {
        return Check.told("valley wide 8 deep 2 layers 2 hours " + hours + " cools 0;wind 1 from 0 east;shop at 0 0 1 sand 0 gas 0 goods 0;");
    }

    private static void draws() {
        Check.of("T5", "DRAWS: x becomes (1103515245 x + 12345) modulo 2,147,483,648 (at first it is the seed); a draw: x / 65536, cut, modulo 100");
        // The well known rows 16838 5758 10113 .. of seed 1 and 0 21468 9988 .. of seed 0.
        int[][] known = {{1, 38, 58, 13}, {0, 0, 68, 88}};
        for (int[] k : known) {
            for (int i = 0; i < 3; i++) {
                Check.due("draw " + i + " of seed " + k[0], drawn(k[0], 3)[i], k[1 + i]);
            }
        }
        int[] seeds = {0, 1, 2, 99, 65535, 65536, 12345678, 1073741824, SEED - 1, SEED};
        for (int seed : seeds) {
            int[] due = drawn(seed, 3);
            BalloonGrocers x = lane(3);
            for (int i = 0; i < 3; i++) {
                for (int odds = due[i]; odds <= due[i] + 1; odds++) {
                    int place = 0;
                    for (int h = 0; h <= i; h++) {
                        place += due[h] < odds ? 2 : 1;
                    }
                    Check.due("gust(" + seed + ", " + odds + ", 0, " + i + ")", x.gust(seed, odds, 0, i), 100 * place + 1);
                }
            }
        }
    }

    private static void layerByLayer() {
        Check.of("T5", "GUSTS: HOUR by HOUR, LAYER by LAYER from 1 on a draw");
        StringBuilder t = new StringBuilder("valley wide 8 deep 8 layers 5 hours 3 cools 0;");
        for (int layer = 1; layer < 5; layer++) {
            t.append("wind ").append(layer).append(" from 0 east;shop at 0 ").append(layer).append(' ').append(layer).append(" sand 0 gas 0 goods 0;");
        }
        BalloonGrocers x = Check.told(t.toString());
        int[] due = drawn(7, 12);
        for (int layer = 1; layer < 5; layer++) {
            int place = 0;
            for (int h = 0; h < 3; h++) {
                place += due[4 * h + layer - 1] < 50 ? 2 : 1;
                Check.due("gust(7, 50, " + (layer - 1) + ", " + h + ")", x.gust(7, 50, layer - 1, h), 100 * place + 10 * layer + layer);
            }
        }
        // Whatever the shops: a layer without one draws too.
        BalloonGrocers one = Check.told("valley wide 8 deep 8 layers 5 hours 3 cools 0;wind 4 from 0 east;shop at 0 4 4 sand 0 gas 0 goods 0;");
        Check.due("gust of one shop alone", one.gust(7, 50, 0, 2), x.gust(7, 50, 3, 2));
    }

    private static void belowOdds() {
        Check.of("T5", "if it is below odds, that WIND carries by two CELLS in that HOUR");
        BalloonGrocers x = lane(1);
        for (int seed = 0; seed < 400; seed++) {
            int draw = drawn(seed, 1)[0];
            if (draw == 0 || draw == 99 || draw == 50) {
                Check.due("gust of draw " + draw + " at odds " + draw, x.gust(seed, draw, 0, 0), 101);
                Check.due("gust of draw " + draw + " at odds " + (draw + 1), x.gust(seed, draw + 1, 0, 0), 201);
            }
        }
        Check.due("gust of draw 38 at odds 1", x.gust(1, 1, 0, 0), 101);
        Check.due("gust of draw 0 at odds 1", x.gust(0, 1, 0, 0), 201);
        BalloonGrocers still = Check.told("valley wide 8 deep 2 layers 2 hours 1 cools 0;shop at 3 0 1 sand 0 gas 0 goods 0;shop at 3 1 0 sand 0 gas 0 goods 0;");
        Check.due("gust of a still wind", still.gust(0, 100, 0, 0), 301);
        Check.due("gust on the ground", still.gust(0, 100, 1, 0), 310);
    }

    private static void secondCell() {
        Check.of("T5", "(the second where it can, one by one)");
        String[] winds = {"north", "east", "south", "west"};
        int[][] two = {{2, 0}, {4, 2}, {2, 4}, {0, 2}};
        int[][] one = {{2, 0}, {4, 2}, {2, 4}, {0, 2}};
        int[][] ahead = {{2, 1}, {3, 2}, {2, 3}, {1, 2}};
        for (int i = 0; i < 4; i++) {
            String sizes = "valley wide 5 deep 5 layers 2 hours 1 cools 0;wind 1 from 0 " + winds[i] + ";";
            BalloonGrocers x = Check.told(sizes + "shop at 2 2 1 sand 0 gas 0 goods 0;shop at " + ahead[i][0] + " " + ahead[i][1]
                + " 1 sand 0 gas 0 goods 0;shop at " + one[i][0] + " " + one[i][1] + " 1 sand 0 gas 0 goods 0;");
            for (int shop = 0; shop < 3; shop++) {
                Check.due("gust " + winds[i] + " of shop " + shop, x.gust(0, 100, shop, 0), 100 * two[i][0] + 10 * two[i][1] + 1);
            }
        }
        // Over a door that it passes, it sells nothing; where it is behind both, it does.
        BalloonGrocers x = Check.told("valley wide 4 deep 2 layers 2 hours 1 cools 0;sells within 1 price 9;wind 1 from 0 east;shop at 0 0 1 sand 0 gas 0 goods 9;door at 1 0 wants 1;");
        Check.due("takings(0, 0)", x.takings(0, 0), 8);
        Check.due("takings(0, 100)", x.takings(0, 100), 0);
    }

    private static void worth() {
        Check.of("P49", "By how much more money (below 0: less) all have, if a SHOP's ACT in an HOUR were another one");
        BalloonGrocers x = Check.told(TEXT);
        Check.due("worth(0, 0, 1)", x.worth(0, 0, 1), 4);
        Check.due("worth(0, 0, 0): the one that it is", x.worth(0, 0, 0), 0);
        Check.due("worth(0, 0, 2): in vain", x.worth(0, 0, 2), 0);
        x.plan(0, 0, 1);
        Check.due("worth(0, 0, 0): less", x.worth(0, 0, 0), -4);
        Check.due("worth(0, 3, 1) in the last hour", x.worth(0, 3, 1), 0);
        Check.refused("worth(0, 0, 0) changes nothing", x, () -> x.worth(0, 0, 0), -4);
        x.gust(0, 100, 0, 3);
        Check.due("worth(0, 0, 0) is without gusts", x.worth(0, 0, 0), -4);
        x.plan(0, 0, 0);
        x.takings(0, 100);
        Check.due("worth(0, 0, 1) is without gusts", x.worth(0, 0, 1), 4);
        Check.of("P49", "-1,000,000: there are none such");
        Check.bounds("worth(shop, 0, 0)", n -> x.worth(n, 0, 0), 0, 1, -1000000);
        Check.bounds("worth(0, hour, 0)", n -> x.worth(0, n, 0), 0, 3, -1000000);
        Check.bounds("worth(0, 0, act)", n -> x.worth(0, 0, n), 0, 2, -1000000);
        Check.due("worth(0, 0, 0) without shops", Check.told(STILL).worth(0, 0, 0), -1000000);
        Check.due("worth(0, 0, 0) without a valley", new BalloonGrocers().worth(0, 0, 0), -1000000);
    }

    private static void best() {
        Check.of("P50", "(1,000 times the SHOP, 10 times the HOUR and the ACT) that brings most money more, the first of several");
        BalloonGrocers x = Check.told(TEXT);
        // Rising in hour 2 brings 5 to shop 0, sinking in hour 1 brings 5 to shop 1.
        Check.due("best()", x.best(), 21);
        x.plan(0, 2, 1);
        Check.due("best() then", x.best(), 1012);
        // The last that there can be: shop 3, hour 23, sinks; ahead of hour 22 it would come down beside the door.
        BalloonGrocers last = Check.told("valley wide 2 deep 2 layers 2 hours 24 cools 0;wind 1 from 22 east;"
            + "shop at 0 0 0 sand 0 gas 0 goods 0;".repeat(3) + "shop at 0 1 1 sand 0 gas 1 goods 1;door at 1 1 wants 1;");
        Check.due("best() of the last", last.best(), 3232);
        Check.refused("best() changes nothing", last, last::best, 3232);
        // The least that there can be: shop 0, hour 0, hangs, and brings 1 more.
        BalloonGrocers least = Check.told(STILL + "sells within 0 price 1;shop at 0 0 0 sand 1 gas 0 goods 1;door at 0 0 wants 1;plan 0 0 rises;");
        Check.due("best() of the first", least.best(), 0);
        least.plan(0, 0, 0);
        Check.due("best() when it hangs", least.best(), -1);
        Check.of("P50", "NONE: none brings more");
        x.plan(1, 1, 2);
        Check.due("best() when all is best", x.best(), -1);
        Check.due("best() without shops", Check.told(STILL).best(), -1);
        Check.due("best() without doors", Check.told(STILL + "shop at 0 0 0 sand 9 gas 9 goods 9;").best(), -1);
        Check.of("P50", "-2: there is no VALLEY");
        Check.due("best()", new BalloonGrocers().best(), -2);
    }

    private static void other() {
        Check.of("P51", "By how much more money, if the VALLEY never cooled (what 0)");
        String shop = "sells within 0 price 7;shop at 0 0 1 sand 0 gas 0 goods 3;door at 0 0 wants 9;";
        BalloonGrocers x = Check.told(STILL.replace("cools 0", "cools 1") + shop);
        // It cools to the door, sells, cools again from layer 1: three times 7.
        Check.due("other(0)", x.other(0), -21);
        Check.due("other(0) where it never cools", Check.told(STILL + shop).other(0), 0);
        Check.due("count(4) stays", x.count(4), 1);
        Check.of("P51", "no WIND blew (1)");
        x = Check.told(STILL + "wind 1 from 0 east;sells within 1 price 7;shop at 0 0 1 sand 0 gas 0 goods 3;door at 0 0 wants 9;");
        Check.due("other(1)", x.other(1), 6);
        Check.due("wind(1, 0) stays", x.wind(1, 0), 2);
        Check.of("P51", "all had one sand more (3)");
        String two = "sells within 1 price 7;shop at 0 0 0 sand 0 gas 0 goods 1;shop at 0 0 0 sand 9 gas 9 goods 0;door at 1 0 wants 9;plan 0 0 rises;";
        x = Check.told("valley wide 4 deep 2 layers 3 hours 3 cools 0;wind 1 from 0 east;" + two);
        Check.due("other(3)", x.other(3), 6);
        Check.due("other(4)", x.other(4), 0);
        Check.due("shop(0, 3) stays", x.shop(0, 3), 0);
        x = Check.told(STILL + "sells within 0 price 7;shop at 0 0 1 sand 0 gas 0 goods 1;shop at 1 1 2 sand 0 gas 1 goods 1;"
            + "door at 0 0 wants 9;door at 1 1 wants 9;plan 0 2 sinks;plan 1 0 sinks;plan 1 2 sinks;");
        Check.of("P51", "one gas more (4)");
        Check.due("other(4): of all of them", x.other(4), 14);
        Check.due("other(3)", x.other(3), 0);
        Check.due("shop(1, 4) stays", x.shop(1, 4), 1);
        Check.of("P51", "-1,000,000: there is no such what");
        BalloonGrocers y = x;
        Check.bounds("other(what)", y::other, 0, 4, -1000000);
        Check.of("P51", "no VALLEY");
        for (int what = -1; what <= 5; what++) {
            Check.due("other(" + what + ")", new BalloonGrocers().other(what), -1000000);
            Check.due("other(" + what + ") without shops", Check.told(STILL).other(what), what < 0 || what > 4 ? -1000000 : 0);
        }
    }

    private static void otherReach() {
        Check.of("P51", "reach were one more (2; at the top: as it is)");
        String shop = "shop at 0 0 2 sand 0 gas 0 goods 3;door at 0 0 wants 9;";
        int[] due = {0, 5 * 3, 0};
        for (int reach = 0; reach < 3; reach++) {
            BalloonGrocers x = Check.told(STILL + "sells within " + reach + " price 7;" + shop);
            Check.due("other(2) of reach " + reach, x.other(2), due[reach]);
            Check.due("count(5) stays", x.count(5), reach);
        }
    }

    private static void load() {
        Check.of("P52", "A SHOP has sand (what 3), gas (4), goods (5) n (0 .. 9) at first from now on: what it had");
        BalloonGrocers x = Check.told(TEXT);
        int[] had = {1, 0, 1};
        for (int what = 3; what <= 5; what++) {
            Check.due("load(0, " + what + ", 9)", x.load(0, what, 9), had[what - 3]);
            Check.due("shop(0, " + what + ")", x.shop(0, what), 9);
            Check.due("where(0, 0, " + what + ")", x.where(0, 0, what), 9);
            Check.due("load(0, " + what + ", 0)", x.load(0, what, 0), 9);
            Check.due("shop(0, " + what + ")", x.shop(0, what), 0);
            Check.due("where(0, 0, " + what + ")", x.where(0, 0, what), 0);
        }
        Check.due("shop(1, 5) stays", x.shop(1, 5), 2);
        Check.of("P52", "-2: there are none such");
        refusedBeyond("load(shop, 3, 0)", n -> x.load(n, 3, 0), 0, 1);
        refusedBeyond("load(0, what, 0)", n -> x.load(0, n, 0), 3, 5);
        refusedBeyond("load(0, 3, n)", n -> x.load(0, 3, n), 0, 9);
        Check.refused("load(0, 2, 1)", x, () -> x.load(0, 2, 1), -2);
        Check.refused("load(0, 6, 1)", x, () -> x.load(0, 6, 1), -2);
        Check.refused("load(0, 3, 10)", x, () -> x.load(0, 3, 10), -2);
        Check.refused("load(2, 3, 1)", x, () -> x.load(2, 3, 1), -2);
    }

    private static void turn() {
        Check.of("P53", "The WIND of a LAYER (1 and above) in an HOUR is another one (0 .. 4) from now on, in that HOUR alone: what it was");
        BalloonGrocers x = Check.told(TEXT);
        Check.due("turn(1, 1, 4)", x.turn(1, 1, 4), 2);
        int[] due = {2, 4, 2, 2};
        for (int hour = 0; hour < 4; hour++) {
            Check.due("wind(1, " + hour + ")", x.wind(1, hour), due[hour]);
            Check.due("wind(2, " + hour + ")", x.wind(2, hour), 0);
        }
        Check.due("turn(1, 1, 0)", x.turn(1, 1, 0), 4);
        // Shop 0 is blown to its door and sells for 4; shop 1 sells for 5, stays in hour 1 and sells for 4.
        x.plan(0, 0, 1);
        Check.due("money()", x.money(), 13);
        Check.due("turn(1, 0, 3)", x.turn(1, 0, 3), 2);
        Check.due("money() by another wind", x.money(), 9);
        Check.due("turn(1, 0, 2)", x.turn(1, 0, 2), 3);
        Check.due("money() by the wind that was", x.money(), 13);
        Check.due("turn(2, 3, 1)", x.turn(2, 3, 1), 0);
        Check.due("wind(2, 3)", x.wind(2, 3), 1);
        Check.due("wind(2, 2)", x.wind(2, 2), 0);
        Check.of("P53", "-2: there are none such");
        refusedBeyond("turn(layer, 0, 0)", n -> x.turn(n, 0, 0), 1, 2);
        refusedBeyond("turn(1, hour, 0)", n -> x.turn(1, n, 0), 0, 3);
        refusedBeyond("turn(1, 0, wind)", n -> x.turn(1, 0, n), 0, 4);
        Check.refused("turn(0, 0, 1)", x, () -> x.turn(0, 0, 1), -2);
        Check.refused("turn(3, 0, 1)", x, () -> x.turn(3, 0, 1), -2);
        Check.refused("turn(1, 4, 1)", x, () -> x.turn(1, 4, 1), -2);
        Check.refused("turn(1, 0, 5)", x, () -> x.turn(1, 0, 5), -2);
    }

    private static void gust() {
        Check.of("P54", "where a SHOP is behind an HOUR by the PLAN (100 times x, 10 times y and LAYER)");
        BalloonGrocers x = Check.told("valley wide 8 deep 8 layers 5 hours 4 cools 0;wind 4 from 0 south;shop at 7 0 3 sand 1 gas 0 goods 0;shop at 0 0 0 sand 0 gas 0 goods 0;plan 0 0 rises;");
        int[] due = {724, 744, 764, 774};
        for (int hour = 0; hour < 4; hour++) {
            Check.due("gust(0, 100, 0, " + hour + ")", x.gust(0, 100, 0, hour), due[hour]);
            Check.due("gust(0, 0, 0, " + hour + ")", x.gust(0, 0, 0, hour), 714 + 10 * hour);
        }
        Check.due("gust(0, 100, 1, 3)", x.gust(0, 100, 1, 3), 0);
        Check.due("where(0, 3, 1) is without gusts", x.where(0, 3, 1), 4);
        Check.of("P54", "GUSTS (V) by a seed (0 .. 2,000,000,000) and odds (0 .. 100)");
        refusedBeyond("gust(seed, 0, 0, 0)", n -> x.gust(n, 0, 0, 0), 0, SEED);
        refusedBeyond("gust(0, odds, 0, 0)", n -> x.gust(0, n, 0, 0), 0, 100);
        Check.of("P54", "-2: there are none such");
        refusedBeyond("gust(0, 0, shop, 0)", n -> x.gust(0, 0, n, 0), 0, 1);
        refusedBeyond("gust(0, 0, 0, hour)", n -> x.gust(0, 0, 0, n), 0, 3);
    }

    private static void chance() {
        Check.of("P55", "Of n (1 .. 20) such from seeds, the seed and 1, .., in how many a SHOP is over a column at the end");
        BalloonGrocers x = lane(3);
        int[] seeds = {0, 1, 77, SEED};
        int[] counts = {1, 2, 19, 20};
        for (int seed : seeds) {
            for (int n : counts) {
                int[] due = new int[8];
                for (int i = 0; i < n; i++) {
                    int place = 0;
                    for (int draw : drawn((long) seed + i, 3)) {
                        place += draw < 50 ? 2 : 1;
                    }
                    due[place]++;
                }
                for (int place = 0; place < 8; place++) {
                    Check.due("chance(" + seed + ", " + n + ", 50, 0, " + place + ", 0)", x.chance(seed, n, 50, 0, place, 0), due[place]);
                }
            }
        }
        Check.of("P55", "-2: there are none such");
        refusedBeyond("chance(seed, 1, 0, 0, 0, 0)", n -> x.chance(n, 1, 0, 0, 0, 0), 0, SEED);
        refusedBeyond("chance(0, n, 0, 0, 0, 0)", n -> x.chance(0, n, 0, 0, 0, 0), 1, 20);
        refusedBeyond("chance(0, 1, odds, 0, 0, 0)", n -> x.chance(0, 1, n, 0, 0, 0), 0, 100);
        refusedBeyond("chance(0, 1, 0, shop, 0, 0)", n -> x.chance(0, 1, 0, n, 0, 0), 0, 0);
        refusedBeyond("chance(0, 1, 0, 0, x, 0)", n -> x.chance(0, 1, 0, 0, n, 0), 0, 7);
        refusedBeyond("chance(0, 1, 0, 0, 0, y)", n -> x.chance(0, 1, 0, 0, 0, n), 0, 1);
    }

    private static void takings() {
        Check.of("P56", "Money of all at the end by it");
        // Two shops, two doors: one is reached by a gust, the other one without.
        BalloonGrocers x = Check.told("valley wide 8 deep 2 layers 3 hours 1 cools 0;sells within 2 price 9;wind 1 from 0 east;wind 2 from 0 east;"
            + "shop at 0 0 1 sand 0 gas 0 goods 1;shop at 0 1 2 sand 0 gas 0 goods 1;door at 2 0 wants 1;door at 1 1 wants 1;");
        int[] seeds = {0, 1, 12345, SEED};
        for (int seed : seeds) {
            int[] draws = drawn(seed, 2);
            for (int odds = 0; odds <= 100; odds += 20) {
                int due = (draws[0] < odds ? 8 : 0) + (draws[1] < odds ? 0 : 7);
                Check.due("takings(" + seed + ", " + odds + ")", x.takings(seed, odds), due);
            }
        }
        Check.due("money() stays", x.money(), 7);
        Check.of("P56", "-2: there are none such");
        refusedBeyond("takings(seed, 0)", n -> x.takings(n, 0), 0, SEED);
        refusedBeyond("takings(0, odds)", n -> x.takings(0, n), 0, 100);
        Check.due("takings(0, 0) without shops", Check.told(STILL).takings(0, 0), 0);
        Check.due("takings(-1, 0) without shops", Check.told(STILL).takings(-1, 0), -2);
        Check.of("P56", "no VALLEY");
        Check.due("takings(0, 0)", new BalloonGrocers().takings(0, 0), -2);
        Check.due("takings(0, 50)", new BalloonGrocers().takings(0, 50), -2);
    }
}
