import java.util.function.IntToLongFunction;

/** The boundary cases of term II and of promises 6 to 24, sentence by sentence. */
public final class EdgePlanTest {
    private static final String SIZES = "valley wide 3 deep 3 layers 3 hours 4 cools 0;";
    /** Two shops, two doors, a wind in each layer. */
    private static final String TEXT = SIZES + "sells within 1 price 5;wind 1 from 0 east;wind 2 from 2 north;"
        + "shop at 0 0 1 sand 1 gas 2 goods 3;shop at 1 1 0 sand 0 gas 0 goods 1;"
        + "door at 1 0 wants 1;door at 1 1 wants 2;plan 0 1 sinks;plan 1 3 rises;";

    public static void main(String[] args) {
        ground();
        shopByShop();
        actsAtTheirEnds();
        edgesOfTheValley();
        cooling();
        saleWithinReach();
        saleOfGoods();
        saleToWants();
        saleBrings();
        saleLifts();
        wind();
        often();
        shop();
        door();
        act();
        plan();
        planFull();
        planRefused();
        undo();
        changed();
        where();
        why();
        vain();
        blown();
        sales();
        sold();
        money();
        richest();
        meets();
        over();
        grounded();
        Check.finish("EdgePlanTest");
    }

    private static void refusedBeyond(String call, IntToLongFunction ask, int least, int most) {
        Check.bounds(call, ask, least, most, -2);
    }

    private static void fact(BalloonGrocers x, int shop, int what, int... due) {
        for (int hour = 0; hour < due.length; hour++) {
            Check.due("where(" + shop + ", " + hour + ", " + what + ")", x.where(shop, hour, what), due[hour]);
        }
    }

    private static void ground() {
        Check.of("T2", "LAYER 0 is the ground: still");
        BalloonGrocers x = Check.told(SIZES + "wind 1 from 0 east;wind 2 from 0 east;shop at 1 1 0 sand 0 gas 0 goods 0;");
        fact(x, 0, 0, 1, 1, 1, 1);
        for (int hour = 0; hour < 4; hour++) {
            Check.due("wind(0, " + hour + ")", x.wind(0, hour), 0);
        }
    }

    private static void shopByShop() {
        Check.of("T2", "In each HOUR SHOP by SHOP");
        String door = "door at 1 1 wants 1;";
        BalloonGrocers x = Check.told(SIZES + "shop at 1 1 0 sand 0 gas 0 goods 1;shop at 1 1 0 sand 0 gas 0 goods 1;" + door);
        Check.due("sales(0, 0)", x.sales(0, 0), 1);
        Check.due("sales(1, 0)", x.sales(1, 0), 0);
        // Shop 0 comes by the wind in the very hour in which shop 1 stands there.
        x = Check.told(SIZES + "sells within 1 price 5;wind 1 from 0 east;shop at 0 1 0 sand 1 gas 0 goods 1;"
            + "shop at 1 1 0 sand 0 gas 0 goods 1;" + door + "plan 0 0 rises;");
        Check.due("sales(0, 0)", x.sales(0, 0), 1);
        Check.due("sales(1, 0)", x.sales(1, 0), 0);
        x.plan(0, 0, 0);
        Check.due("sales(1, 0) if it does not come", x.sales(1, 0), 1);
    }

    private static void actsAtTheirEnds() {
        Check.of("T2", "rises by a LAYER for one sand");
        BalloonGrocers x = Check.told(SIZES + "shop at 0 0 0 sand 1 gas 0 goods 0;plan 0 1 rises;plan 0 2 rises;");
        fact(x, 0, 2, 0, 1, 1, 1);
        fact(x, 0, 3, 1, 0, 0, 0);
        fact(x, 0, 4, 0, 0, 0, 0);
        Check.of("T2", "sinks by one for one gas");
        x = Check.told(SIZES + "shop at 0 0 2 sand 0 gas 1 goods 0;plan 0 1 sinks;plan 0 2 sinks;");
        fact(x, 0, 2, 2, 1, 1, 1);
        fact(x, 0, 4, 1, 0, 0, 0);
        fact(x, 0, 3, 0, 0, 0, 0);
        Check.of("T2", "(not beyond the top, the ground; else in vain)");
        x = Check.told(SIZES + "shop at 0 0 1 sand 9 gas 9 goods 0;shop at 0 0 1 sand 9 gas 9 goods 0;"
            + "plan 0 0 rises;plan 0 1 rises;plan 0 2 rises;plan 1 0 sinks;plan 1 1 sinks;plan 1 2 sinks;");
        fact(x, 0, 2, 2, 2, 2, 2);
        fact(x, 0, 3, 8, 8, 8, 8);
        fact(x, 0, 4, 9, 9, 9, 9);
        fact(x, 1, 2, 0, 0, 0, 0);
        fact(x, 1, 3, 9, 9, 9, 9);
        fact(x, 1, 4, 8, 8, 8, 8);
    }

    private static void edgesOfTheValley() {
        Check.of("T2", "(north y less, east x more, south y more, west x less), if that is in the VALLEY");
        String[] winds = {"north", "east", "south", "west"};
        int[][] xs = {{1, 1, 1}, {2, 2, 2}, {1, 1, 1}, {0, 0, 0}};
        int[][] ys = {{0, 0, 0}, {1, 1, 1}, {2, 2, 2}, {1, 1, 1}};
        for (int i = 0; i < 4; i++) {
            BalloonGrocers x = Check.told(SIZES + "wind 1 from 0 " + winds[i] + ";shop at 1 1 1 sand 0 gas 0 goods 0;");
            fact(x, 0, 0, xs[i]);
            fact(x, 0, 1, ys[i]);
            fact(x, 0, 2, 1, 1, 1, 1);
        }
        // Wide and deep differ: each has its own end.
        BalloonGrocers x = Check.told("valley wide 2 deep 8 layers 2 hours 9 cools 0;wind 1 from 0 east;wind 1 from 1 south;shop at 0 0 1 sand 0 gas 0 goods 0;");
        fact(x, 0, 0, 1, 1, 1, 1, 1, 1, 1, 1, 1);
        fact(x, 0, 1, 0, 1, 2, 3, 4, 5, 6, 7, 7);
        x = Check.told("valley wide 8 deep 2 layers 2 hours 9 cools 0;wind 1 from 0 south;wind 1 from 1 east;shop at 0 0 1 sand 0 gas 0 goods 0;");
        fact(x, 0, 1, 1, 1, 1, 1, 1, 1, 1, 1, 1);
        fact(x, 0, 0, 0, 1, 2, 3, 4, 5, 6, 7, 7);
        Check.of("T2", "then the WIND of its LAYER carries it by a CELL");
        x = Check.told(SIZES + "wind 1 from 0 east;shop at 0 1 0 sand 1 gas 0 goods 0;shop at 0 1 1 sand 0 gas 1 goods 0;plan 0 1 rises;plan 1 1 sinks;");
        fact(x, 0, 0, 0, 1, 2, 2);
        fact(x, 1, 0, 1, 1, 1, 1);
    }

    private static void cooling() {
        Check.of("T2", "if the HOUR and 1 is a whole number of times cools (0: never)");
        String shop = "shop at 0 0 4 sand 0 gas 0 goods 0;";
        fact(Check.told("valley wide 2 deep 2 layers 5 hours 6 cools 2;" + shop), 0, 2, 4, 3, 3, 2, 2, 1);
        fact(Check.told("valley wide 2 deep 2 layers 5 hours 6 cools 3;" + shop), 0, 2, 4, 4, 3, 3, 3, 2);
        fact(Check.told("valley wide 2 deep 2 layers 5 hours 6 cools 6;" + shop), 0, 2, 4, 4, 4, 4, 4, 3);
        fact(Check.told("valley wide 2 deep 2 layers 5 hours 6 cools 7;" + shop), 0, 2, 4, 4, 4, 4, 4, 4);
        fact(Check.told("valley wide 2 deep 2 layers 5 hours 6 cools 0;" + shop), 0, 2, 4, 4, 4, 4, 4, 4);
        BalloonGrocers x = Check.told("valley wide 2 deep 2 layers 5 hours 24 cools 24;" + shop);
        Check.due("LAYER behind hour 22", x.where(0, 22, 2), 4);
        Check.due("LAYER behind hour 23", x.where(0, 23, 2), 3);
        Check.of("T2", "it sinks by a LAYER, if it is above the ground");
        x = Check.told("valley wide 2 deep 2 layers 5 hours 6 cools 1;shop at 0 0 2 sand 0 gas 3 goods 0;");
        fact(x, 0, 2, 1, 0, 0, 0, 0, 0);
        fact(x, 0, 4, 3, 3, 3, 3, 3, 3);
        // The wind comes ahead of it: of the layer where it still is.
        x = Check.told(SIZES.replace("cools 0", "cools 1") + "wind 1 from 0 east;shop at 0 0 1 sand 0 gas 0 goods 0;");
        fact(x, 0, 0, 1, 1, 1, 1);
        fact(x, 0, 2, 0, 0, 0, 0);
    }

    private static void saleWithinReach() {
        Check.of("T2", "then a SALE, if its LAYER is no more than reach");
        for (int reach = 0; reach < 3; reach++) {
            for (int layer = 0; layer < 3; layer++) {
                BalloonGrocers x = Check.told(SIZES + "sells within " + reach + " price 9;shop at 1 1 " + layer + " sand 0 gas 0 goods 1;door at 1 1 wants 1;");
                Check.due("sales of layer " + layer + " by reach " + reach, x.sales(0, -1), layer <= reach ? 1 : 0);
            }
        }
        // Behind the act and the cooling, not ahead of them.
        BalloonGrocers x = Check.told(SIZES.replace("cools 0", "cools 1") + "shop at 1 1 1 sand 0 gas 0 goods 1;door at 1 1 wants 1;");
        Check.due("sold(0, 0) when it has cooled", x.sold(0, 0), 0);
        x = Check.told(SIZES + "shop at 1 1 0 sand 1 gas 0 goods 1;door at 1 1 wants 1;plan 0 0 rises;");
        Check.due("sales(0, -1) when it has risen", x.sales(0, -1), 0);
    }

    private static void saleOfGoods() {
        Check.of("T2", "it has goods");
        String door = "door at 1 1 wants 9;";
        BalloonGrocers x = Check.told(SIZES + "sells within 2 price 9;shop at 1 1 0 sand 0 gas 0 goods 0;" + door);
        Check.due("sales without goods", x.sales(0, -1), 0);
        fact(x, 0, 2, 0, 0, 0, 0);
        x = Check.told(SIZES + "sells within 2 price 9;shop at 1 1 0 sand 0 gas 0 goods 2;" + door);
        fact(x, 0, 5, 1, 0, 0, 0);
        Check.due("door(0, 3)", x.door(0, 3), 7);
    }

    private static void saleToWants() {
        Check.of("T2", "over a DOOR that wants still");
        String shop = "sells within 2 price 9;shop at 1 1 0 sand 0 gas 0 goods 9;";
        BalloonGrocers x = Check.told(SIZES + shop + "door at 1 1 wants 0;");
        Check.due("sales to a door that wants 0", x.sales(0, -1), 0);
        x = Check.told(SIZES + shop + "door at 1 1 wants 3;");
        Check.due("sales to a door that wants 3", x.sales(0, -1), 3);
        fact(x, 0, 5, 8, 7, 6, 6);
        x = Check.told(SIZES + shop + "door at 1 0 wants 3;door at 0 1 wants 3;door at 2 1 wants 3;door at 1 2 wants 3;");
        Check.due("sales beside doors", x.sales(0, -1), 0);
    }

    private static void saleBrings() {
        Check.of("T2", "it gets price less LAYER (0 at least)");
        int[][] due = {{0, 0, 0}, {1, 0, 0}, {2, 1, 0}, {99, 98, 97}};
        for (int[] row : due) {
            for (int layer = 0; layer < 3; layer++) {
                BalloonGrocers x = Check.told(SIZES + "sells within 2 price " + row[0] + ";shop at 1 1 " + layer + " sand 0 gas 0 goods 1;door at 1 1 wants 1;");
                Check.due("money by price " + row[0] + " in layer " + layer, x.where(0, 0, 6), row[layer]);
                Check.due("it is a sale", x.sales(0, 0), 1);
            }
        }
    }

    private static void saleLifts() {
        Check.of("T2", "is a LAYER higher (not beyond the top)");
        BalloonGrocers x = Check.told(SIZES + "sells within 2 price 9;shop at 1 1 0 sand 0 gas 0 goods 9;door at 1 1 wants 9;");
        fact(x, 0, 2, 1, 2, 2, 2);
        fact(x, 0, 3, 0, 0, 0, 0);
        fact(x, 0, 6, 9, 17, 24, 31);
    }

    private static void wind() {
        Check.of("P6", "WIND of a LAYER in an HOUR: 0 still, 1 north, 2 east, 3 south, 4 west");
        BalloonGrocers x = Check.told("valley wide 2 deep 2 layers 5 hours 5 cools 0;wind 4 from 0 north;wind 4 from 1 east;wind 4 from 2 south;wind 4 from 3 west;wind 4 from 4 still;");
        int[] due = {1, 2, 3, 4, 0};
        for (int hour = 0; hour < 5; hour++) {
            Check.due("wind(4, " + hour + ")", x.wind(4, hour), due[hour]);
        }
        Check.of("P6", "-2: there are none such");
        for (int layers = 2; layers <= 5; layers++) {
            for (int hours = 1; hours <= 24; hours += 23) {
                BalloonGrocers y = Check.told("valley wide 2 deep 2 layers " + layers + " hours " + hours + " cools 0;");
                refusedBeyond("wind(layer, 0)", n -> y.wind(n, 0), 0, layers - 1);
                refusedBeyond("wind(0, hour)", n -> y.wind(0, n), 0, hours - 1);
            }
        }
    }

    private static void often() {
        Check.of("P7", "How many HOURS a LAYER's WIND is one (0 .. 4)");
        BalloonGrocers x = Check.told("valley wide 2 deep 2 layers 2 hours 24 cools 0;wind 1 from 23 west;");
        int[] due = {23, 0, 0, 0, 1};
        for (int wind = 0; wind < 5; wind++) {
            Check.due("often(1, " + wind + ")", x.often(1, wind), due[wind]);
            Check.due("often(0, " + wind + ")", x.often(0, wind), wind == 0 ? 24 : 0);
        }
        Check.of("P7", "-2: there are none such");
        refusedBeyond("often(layer, 0)", n -> x.often(n, 0), 0, 1);
        refusedBeyond("often(0, wind)", n -> x.often(0, n), 0, 4);
    }

    private static void shop() {
        Check.of("P8", "Of a SHOP at first, what 0, 1, 2: x, y, LAYER, 3: sand, 4: gas, 5: goods");
        BalloonGrocers x = Check.told(TEXT);
        int[] due = {0, 0, 1, 1, 2, 3};
        for (int what = 0; what < 6; what++) {
            Check.due("shop(0, " + what + ")", x.shop(0, what), due[what]);
        }
        Check.of("P8", "-2: there are none such");
        refusedBeyond("shop(shop, 0)", n -> x.shop(n, 0), 0, 1);
        refusedBeyond("shop(0, what)", n -> x.shop(0, n), 0, 5);
        Check.due("shop(0, 0) without shops", Check.told(SIZES).shop(0, 0), -2);
        BalloonGrocers four = Check.told(SIZES + "shop at 0 0 0 sand 0 gas 0 goods 0;".repeat(4));
        refusedBeyond("shop(shop, 0) of four", n -> four.shop(n, 0), 0, 3);
    }

    private static void door() {
        Check.of("P9", "Of a DOOR, what 0, 1: x, y, 2: how many it wants at first, 3: at the end by the PLAN");
        BalloonGrocers x = Check.told(TEXT);
        int[] due = {1, 0, 1, 0};
        for (int what = 0; what < 4; what++) {
            Check.due("door(0, " + what + ")", x.door(0, what), due[what]);
        }
        Check.due("door(1, 3)", x.door(1, 3), 1);
        x.load(1, 5, 0);
        Check.due("door(1, 3) to which none is sold", x.door(1, 3), 2);
        Check.due("door(1, 2)", x.door(1, 2), 2);
        Check.of("P9", "-2: there are none such");
        refusedBeyond("door(door, 0)", n -> x.door(n, 0), 0, 1);
        refusedBeyond("door(0, what)", n -> x.door(0, n), 0, 3);
        Check.due("door(0, 0) without doors", Check.told(SIZES).door(0, 0), -2);
        BalloonGrocers five = Check.told(SIZES + "door at 0 0 wants 0;door at 1 0 wants 0;door at 2 0 wants 0;door at 0 1 wants 0;door at 1 1 wants 0;");
        refusedBeyond("door(door, 0) of five", n -> five.door(n, 3), 0, 4);
    }

    private static void act() {
        Check.of("P10", "The ACT of a SHOP in an HOUR by the PLAN (0 hangs, 1 rises, 2 sinks)");
        BalloonGrocers x = Check.told(TEXT);
        int[][] due = {{0, 2, 0, 0}, {0, 0, 0, 1}};
        for (int shop = 0; shop < 2; shop++) {
            for (int hour = 0; hour < 4; hour++) {
                Check.due("act(" + shop + ", " + hour + ")", x.act(shop, hour), due[shop][hour]);
            }
        }
        Check.of("P10", "-2: there are none such");
        refusedBeyond("act(shop, 0)", n -> x.act(n, 0), 0, 1);
        refusedBeyond("act(0, hour)", n -> x.act(0, n), 0, 3);
    }

    private static void plan() {
        Check.of("P11", "Its ACT in an HOUR is one (0 .. 2) from now on: what it was");
        BalloonGrocers x = Check.told(TEXT);
        Check.due("plan(0, 0, 2)", x.plan(0, 0, 2), 0);
        Check.due("plan(0, 0, 1)", x.plan(0, 0, 1), 2);
        Check.due("plan(0, 0, 0)", x.plan(0, 0, 0), 1);
        Check.due("plan(1, 3, 0)", x.plan(1, 3, 0), 1);
        Check.due("act(1, 3)", x.act(1, 3), 0);
        Check.due("count(11)", x.count(11), 4);
        Check.due("plan() of what it is already", x.plan(1, 3, 0), 0);
        Check.due("count(11)", x.count(11), 5);
    }

    private static void planFull() {
        Check.of("P11", "-5: there were 60 such changes that are not taken back");
        BalloonGrocers x = Check.told(TEXT);
        for (int i = 0; i < 60; i++) {
            Check.due("plan " + (i + 1), x.plan(1, 0, (i + 1) % 3), i % 3);
        }
        Check.refused("plan 61", x, () -> x.plan(0, 0, 1), -5);
        Check.refused("plan 61 of what it is already", x, () -> x.plan(1, 0, 0), -5);
        Check.due("changed(59, 2)", x.changed(59, 2), 0);
        Check.due("changed(60, 2)", x.changed(60, 2), -1);
        Check.due("undo()", x.undo(), 59);
        Check.due("plan 60 again", x.plan(0, 0, 1), 0);
        Check.due("count(11)", x.count(11), 60);
        Check.refused("plan 61 again", x, () -> x.plan(0, 0, 1), -5);
        for (int left = 59; left >= 0; left--) {
            Check.due("undo()", x.undo(), left);
        }
        Check.same("all of it", Check.allOf(x), Check.allOf(Check.told(TEXT)));
    }

    private static void planRefused() {
        Check.of("P11", "-2: there are none such");
        BalloonGrocers x = Check.told(TEXT);
        refusedBeyond("plan(shop, 0, 0)", n -> x.plan(n, 0, 0), 0, 1);
        refusedBeyond("plan(0, hour, 0)", n -> x.plan(0, n, 0), 0, 3);
        refusedBeyond("plan(0, 0, act)", n -> x.plan(0, 0, n), 0, 2);
        Check.due("count(11): none of them is a change", x.count(11), 6);
        Check.refused("plan(2, 0, 1)", x, () -> x.plan(2, 0, 1), -2);
        Check.refused("plan(0, 4, 1)", x, () -> x.plan(0, 4, 1), -2);
        Check.refused("plan(0, 0, 3)", x, () -> x.plan(0, 0, 3), -2);
        Check.refused("plan(0, 0, -1)", x, () -> x.plan(0, 0, -1), -2);
        for (int i = 6; i < 60; i++) {
            x.plan(0, 0, 0);
        }
        Check.due("plan(2, 0, 0) behind 60", x.plan(2, 0, 0), -2);
    }

    private static void undo() {
        Check.of("P12", "The latest change by plan() that is not taken back is: how many there are still");
        BalloonGrocers x = Check.told(TEXT);
        x.plan(0, 1, 1);
        x.plan(0, 1, 0);
        x.plan(1, 2, 2);
        x.load(0, 3, 9);
        x.turn(1, 3, 4);
        int money = x.money();
        Check.due("undo()", x.undo(), 2);
        Check.due("act(1, 2)", x.act(1, 2), 0);
        x.plan(0, 0, 2);
        Check.due("money() by another plan", x.money() != money ? 1 : 0, 1);
        Check.due("undo()", x.undo(), 2);
        Check.due("money() as it was", x.money(), money);
        Check.due("undo()", x.undo(), 1);
        Check.due("act(0, 1)", x.act(0, 1), 1);
        Check.due("undo()", x.undo(), 0);
        Check.due("act(0, 1)", x.act(0, 1), 2);
        Check.due("loads are no such changes", x.shop(0, 3), 9);
        Check.due("winds are no such changes", x.wind(1, 3), 4);
        Check.of("P12", "-5: there is none");
        Check.refused("undo()", x, x::undo, -5);
        BalloonGrocers fresh = Check.told(TEXT);
        Check.refused("undo() of what the text planned", fresh, fresh::undo, -5);
        Check.of("P12", "-2: there is no VALLEY");
        BalloonGrocers none = new BalloonGrocers();
        Check.refused("undo()", none, none::undo, -2);
        fresh.plan(0, 0, 1);
        fresh.valley();
        Check.due("undo() when the valley is gone", fresh.undo(), -2);
    }

    private static void changed() {
        Check.of("P13", "Of change i (from 0) that is not taken back, what 0: SHOP, 1: HOUR, 2: ACT, 3: what it was");
        BalloonGrocers x = Check.told(TEXT);
        x.plan(1, 3, 2);
        x.plan(0, 2, 1);
        x.plan(0, 2, 0);
        x.undo();
        int[][] due = {{1, 3, 2, 1}, {0, 2, 1, 0}};
        for (int i = 0; i < 2; i++) {
            for (int what = 0; what < 4; what++) {
                Check.due("changed(" + i + ", " + what + ")", x.changed(i, what), due[i][what]);
            }
        }
        Check.of("P13", "NONE: there is none such");
        for (int what = 0; what < 4; what++) {
            int w = what;
            Check.bounds("changed(i, " + what + ")", n -> x.changed(n, w), 0, 1, -1);
        }
        Check.of("P13", "-2: there is no such what");
        refusedBeyond("changed(0, what)", n -> x.changed(0, n), 0, 3);
        refusedBeyond("changed(2, what): asked first", n -> x.changed(2, n), 0, 3);
        Check.of("P13", "no VALLEY");
        Check.due("changed(0, 0)", new BalloonGrocers().changed(0, 0), -2);
        x.valley();
        Check.due("changed(0, 0) when the valley is gone", x.changed(0, 0), -2);
    }

    private static void where() {
        Check.of("P14", "Behind an HOUR by the PLAN, what 0, 1, 2: x, y, LAYER of a SHOP, 3: sand, 4: gas, 5: goods, 6: money");
        BalloonGrocers x = Check.told(TEXT);
        // Blown to the door at 1 0, it sells for 4 and is in 2; sinks to 1, is blown to 2 0, where the valley ends.
        int[][] due = {{1, 2, 2, 2}, {0, 0, 0, 0}, {2, 1, 1, 1}, {1, 1, 1, 1}, {2, 1, 1, 1}, {2, 2, 2, 2}, {4, 4, 4, 4}};
        for (int what = 0; what < 7; what++) {
            fact(x, 0, what, due[what]);
        }
        Check.of("P14", "-2: there are none such");
        refusedBeyond("where(shop, 0, 0)", n -> x.where(n, 0, 0), 0, 1);
        refusedBeyond("where(0, hour, 0)", n -> x.where(0, n, 0), 0, 3);
        refusedBeyond("where(0, 0, what)", n -> x.where(0, 0, n), 0, 6);
    }

    private static void why() {
        Check.of("P15", "0 it does, 1 it has no sand, 2 no gas, 3 it is at the top, 4 on the ground");
        String[] acts = {"", "plan 0 0 rises;", "plan 0 0 sinks;"};
        int[][] poor = {{0, 1, 4}, {0, 1, 2}, {0, 3, 2}};
        int[][] rich = {{0, 0, 4}, {0, 0, 0}, {0, 3, 0}};
        for (int layer = 0; layer < 3; layer++) {
            for (int act = 0; act < 3; act++) {
                Check.due("why of act " + act + " in layer " + layer + " without any", Check.told(SIZES + "shop at 0 0 " + layer
                    + " sand 0 gas 0 goods 0;" + acts[act]).why(0, 0), poor[layer][act]);
                Check.due("why of act " + act + " in layer " + layer + " with one", Check.told(SIZES + "shop at 0 0 " + layer
                    + " sand 1 gas 1 goods 0;" + acts[act]).why(0, 0), rich[layer][act]);
            }
        }
        Check.of("P15", "(asked ahead of sand, gas)");
        BalloonGrocers x = Check.told(SIZES + "shop at 0 0 2 sand 0 gas 0 goods 0;shop at 0 0 0 sand 0 gas 0 goods 0;plan 0 3 rises;plan 1 3 sinks;");
        Check.due("why at the top without sand", x.why(0, 3), 3);
        Check.due("why on the ground without gas", x.why(1, 3), 4);
        Check.of("P15", "-2: there are none such");
        refusedBeyond("why(shop, 0)", n -> x.why(n, 0), 0, 1);
        refusedBeyond("why(0, hour)", n -> x.why(0, n), 0, 3);
    }

    private static void vain() {
        Check.of("P16", "How many ACTS of a SHOP are in vain");
        StringBuilder t = new StringBuilder("valley wide 2 deep 2 layers 2 hours 24 cools 0;shop at 0 0 0 sand 1 gas 0 goods 0;shop at 0 0 0 sand 1 gas 0 goods 0;");
        for (int hour = 0; hour < 24; hour++) {
            t.append("plan 0 ").append(hour).append(" sinks;");
        }
        BalloonGrocers x = Check.told(t.toString());
        Check.due("vain(0) of sinking always", x.vain(0), 24);
        Check.due("vain(1) of hanging always", x.vain(1), 0);
        x.plan(1, 0, 2);
        Check.due("vain(0) whatever shop 1 does", x.vain(0), 24);
        x.undo();
        x.plan(0, 0, 1);
        Check.due("vain(0) of one that is not", x.vain(0), 23);
        x.plan(0, 23, 0);
        Check.due("vain(0) of two that are not", x.vain(0), 22);
        Check.of("P16", "-2: there is none such");
        refusedBeyond("vain(shop)", x::vain, 0, 1);
    }

    private static void blown() {
        Check.of("P17", "Whether the WIND carries a SHOP in an HOUR: 1");
        BalloonGrocers x = Check.told(SIZES + "wind 1 from 1 east;shop at 0 0 1 sand 0 gas 1 goods 0;shop at 0 0 0 sand 1 gas 0 goods 0;plan 1 2 rises;");
        Check.due("blown(0, 1)", x.blown(0, 1), 1);
        Check.due("blown(0, 2)", x.blown(0, 2), 1);
        Check.due("blown(1, 2) in the hour of its rise", x.blown(1, 2), 1);
        Check.of("P17", "0: it is still, on the ground, or the VALLEY ends there");
        Check.due("blown(0, 0): still", x.blown(0, 0), 0);
        Check.due("blown(0, 3): the valley ends", x.blown(0, 3), 0);
        Check.due("blown(1, 1): on the ground", x.blown(1, 1), 0);
        x.plan(0, 1, 2);
        Check.due("blown(0, 1) in the hour in which it comes down", x.blown(0, 1), 0);
        String[] winds = {"north", "west"};
        for (String wind : winds) {
            Check.due("blown " + wind + " at 0 0", Check.told(SIZES + "wind 1 from 0 " + wind + ";shop at 0 0 1 sand 0 gas 0 goods 0;").blown(0, 0), 0);
        }
        Check.due("blown south at 0 2", Check.told(SIZES + "wind 1 from 0 south;shop at 0 2 1 sand 0 gas 0 goods 0;").blown(0, 0), 0);
        Check.of("P17", "-2: there are none such");
        refusedBeyond("blown(shop, 0)", n -> x.blown(n, 0), 0, 1);
        refusedBeyond("blown(0, hour)", n -> x.blown(0, n), 0, 3);
    }

    private static void sales() {
        Check.of("P18", "SALES of a SHOP (DOOR NONE: at all, else at one)");
        BalloonGrocers x = Check.told(SIZES + "sells within 2 price 5;wind 2 from 2 east;shop at 0 0 0 sand 0 gas 0 goods 9;shop at 2 2 0 sand 0 gas 0 goods 9;"
            + "door at 0 0 wants 9;door at 1 0 wants 9;");
        // At 0 0 in hours 0 and 1, from layer 2 on blown to 1 0 in hour 2, to 2 0 in hour 3.
        Check.due("sales(0, -1)", x.sales(0, -1), 3);
        Check.due("sales(0, 0)", x.sales(0, 0), 2);
        Check.due("sales(0, 1)", x.sales(0, 1), 1);
        Check.due("sales(1, -1)", x.sales(1, -1), 0);
        Check.of("P18", "-2: there are none such");
        refusedBeyond("sales(shop, -1)", n -> x.sales(n, -1), 0, 1);
        refusedBeyond("sales(0, door)", n -> x.sales(0, n), -1, 1);
        Check.due("sales(0, 0) without doors", Check.told(SIZES + "shop at 0 0 0 sand 0 gas 0 goods 0;").sales(0, 0), -2);
        Check.due("sales(0, -1) without doors", Check.told(SIZES + "shop at 0 0 0 sand 0 gas 0 goods 0;").sales(0, -1), 0);
    }

    private static void sold() {
        Check.of("P19", "The HOUR of SALE i (from 0) of a SHOP");
        BalloonGrocers x = Check.told(SIZES + "wind 1 from 0 east;shop at 0 0 0 sand 0 gas 9 goods 9;shop at 0 0 0 sand 0 gas 0 goods 0;"
            + "door at 0 0 wants 9;door at 2 0 wants 9;plan 0 3 sinks;");
        Check.due("sold(0, 0)", x.sold(0, 0), 0);
        Check.due("sold(0, 1)", x.sold(0, 1), 3);
        Check.of("P19", "NONE: there is none such");
        Check.bounds("sold(0, i)", n -> x.sold(0, n), 0, 1, -1);
        Check.due("sold(1, 0) of none", x.sold(1, 0), -1);
        Check.of("P19", "-2: there is no such SHOP");
        refusedBeyond("sold(shop, 0)", n -> x.sold(n, 0), 0, 1);
        refusedBeyond("sold(shop, 9): asked first", n -> x.sold(n, 9), 0, 1);
    }

    private static void money() {
        Check.of("P20", "Money of all at the end");
        BalloonGrocers x = Check.told(TEXT);
        Check.due("money()", x.money(), 9);
        Check.due("money() without shops", Check.told(SIZES + "door at 0 0 wants 1;").money(), 0);
        x = Check.told("valley wide 2 deep 2 layers 2 hours 24 cools 1;sells within 1 price 99;" + "shop at 0 0 0 sand 0 gas 0 goods 9;"
            + "shop at 1 0 0 sand 0 gas 0 goods 9;shop at 0 1 0 sand 0 gas 0 goods 9;shop at 1 1 0 sand 0 gas 0 goods 9;"
            + "door at 0 0 wants 9;door at 1 0 wants 9;door at 0 1 wants 9;door at 1 1 wants 9;");
        Check.due("money() of the most that there can be", x.money(), 4 * 9 * 99);
        Check.of("P20", "-2: there is no VALLEY");
        Check.due("money()", new BalloonGrocers().money(), -2);
        x.valley();
        Check.due("money() when the valley is gone", x.money(), -2);
    }

    private static void richest() {
        Check.of("P21", "The SHOP that has most at the end, the first of several");
        BalloonGrocers x = Check.told(SIZES + "shop at 0 0 0 sand 0 gas 0 goods 0;shop at 1 0 0 sand 0 gas 0 goods 1;shop at 2 0 0 sand 0 gas 0 goods 1;"
            + "door at 0 0 wants 1;door at 1 0 wants 1;door at 2 0 wants 1;");
        Check.due("richest()", x.richest(), 1);
        x.load(1, 5, 0);
        Check.due("richest()", x.richest(), 2);
        x.load(2, 5, 0);
        Check.due("richest() when none has any", x.richest(), 0);
        Check.of("P21", "NONE: there are no SHOPS");
        Check.due("richest()", Check.told(SIZES).richest(), -1);
        Check.of("P21", "-2: there is no VALLEY");
        Check.due("richest()", new BalloonGrocers().richest(), -2);
    }

    private static void meets() {
        Check.of("P22", "HOURS (bits) at whose end two SHOPS are in one CELL (LAYER too) by the PLAN");
        BalloonGrocers x = Check.told("valley wide 2 deep 2 layers 3 hours 24 cools 0;shop at 0 1 1 sand 1 gas 1 goods 0;shop at 0 1 1 sand 0 gas 0 goods 0;"
            + "shop at 1 1 1 sand 0 gas 0 goods 0;shop at 0 0 1 sand 0 gas 0 goods 0;plan 0 1 rises;plan 0 23 sinks;");
        Check.due("meets(0, 1)", x.meets(0, 1), 1 | 1 << 23);
        Check.due("meets(1, 0)", x.meets(1, 0), 1 | 1 << 23);
        Check.due("meets(0, 2) beside", x.meets(0, 2), 0);
        Check.due("meets(0, 3) beside", x.meets(0, 3), 0);
        Check.of("P22", "-2: there are none such");
        refusedBeyond("meets(shop, 0)", n -> x.meets(n, n == 3 ? 0 : 3), 0, 3);
        refusedBeyond("meets(0, other)", n -> x.meets(n == 0 ? 3 : 0, n), 0, 3);
        Check.of("P22", "one twice");
        for (int shop = 0; shop < 4; shop++) {
            Check.due("meets of one twice", x.meets(shop, shop), -2);
        }
    }

    private static void over() {
        Check.of("P23", "HOURS (bits) at whose end a SHOP is over (or at) a column");
        BalloonGrocers x = Check.told("valley wide 2 deep 3 layers 3 hours 24 cools 0;wind 1 from 1 east;wind 1 from 23 south;shop at 0 1 1 sand 0 gas 0 goods 0;"
            + "shop at 0 1 0 sand 0 gas 0 goods 0;");
        Check.due("over(0, 0, 1)", x.over(0, 0, 1), 1);
        Check.due("over(0, 1, 1)", x.over(0, 1, 1), (1 << 23) - 2);
        Check.due("over(0, 1, 2)", x.over(0, 1, 2), 1 << 23);
        Check.due("over(0, 0, 0)", x.over(0, 0, 0), 0);
        Check.due("over(1, 0, 1): at it", x.over(1, 0, 1), (1 << 24) - 1);
        Check.of("P23", "-2: there are none such");
        refusedBeyond("over(shop, 0, 0)", n -> x.over(n, 0, 0), 0, 1);
        refusedBeyond("over(0, x, 0)", n -> x.over(0, n, 0), 0, 1);
        refusedBeyond("over(0, 0, y)", n -> x.over(0, 0, n), 0, 2);
    }

    private static void grounded() {
        Check.of("P24", "HOURS (bits) at whose end it is on the ground");
        BalloonGrocers x = Check.told("valley wide 2 deep 3 layers 3 hours 24 cools 0;shop at 0 1 0 sand 9 gas 9 goods 0;shop at 0 1 2 sand 0 gas 0 goods 0;"
            + "plan 0 1 rises;plan 0 23 sinks;");
        Check.due("grounded(0)", x.grounded(0), 1 | 1 << 23);
        Check.due("grounded(1)", x.grounded(1), 0);
        x.plan(0, 1, 0);
        Check.due("grounded(0) always", x.grounded(0), (1 << 24) - 1);
        Check.of("P24", "-2: there is none such");
        refusedBeyond("grounded(shop)", x::grounded, 0, 1);
    }
}
