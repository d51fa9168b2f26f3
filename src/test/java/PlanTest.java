/** Promises 6 to 24: what the valley tells, the plan, its changes, and what comes of it. */
public final class PlanTest {
    static final String TEXT = "valley wide 4 deep 3 layers 3 hours 6 cools 4;"
        + "sells within 1 price 5;"
        + "wind 1 from 0 east;wind 2 from 3 west;wind 2 from 1 north;wind 2 from 1 south;"
        + "shop at 0 0 0 sand 2 gas 1 goods 2;"
        + "shop at 3 2 1 sand 0 gas 0 goods 1;"
        + "door at 1 0 wants 1;door at 3 2 wants 2;"
        + "fair at 2 1 from 1 to 3;"
        + "plan 0 0 rises;plan 0 1 rises;plan 0 3 sinks;plan 0 4 sinks;plan 0 5 sinks;plan 1 2 rises;plan 1 5 sinks;plan 0 1 sinks;";

    public static void main(String[] args) {
        facts();
        flight();
        bits();
        changes();
        tooManyChanges();
        wrongAsked();
        Check.finish("PlanTest");
    }

    private static void facts() {
        BalloonGrocers x = Check.told(19, TEXT);
        int[] winds = {0, 3, 3, 4, 4, 4};
        for (int h = 0; h < 6; h++) {
            Check.due("wind(0, " + h + ")", x.wind(0, h), 0);
            Check.due("wind(1, " + h + ")", x.wind(1, h), 2);
            Check.due("wind(2, " + h + ")", x.wind(2, h), winds[h]);
        }
        Check.due("often(0, 0)", x.often(0, 0), 6);
        Check.due("often(0, 2)", x.often(0, 2), 0);
        Check.due("often(2, 0)", x.often(2, 0), 1);
        Check.due("often(2, 3)", x.often(2, 3), 2);
        Check.due("often(2, 4)", x.often(2, 4), 3);
        int[] first = {0, 0, 0, 2, 1, 2};
        int[] second = {3, 2, 1, 0, 0, 1};
        for (int what = 0; what < 6; what++) {
            Check.due("shop(0, " + what + ")", x.shop(0, what), first[what]);
            Check.due("shop(1, " + what + ")", x.shop(1, what), second[what]);
        }
        int[] door = {3, 2, 2, 1};
        for (int what = 0; what < 4; what++) {
            Check.due("door(1, " + what + ")", x.door(1, what), door[what]);
        }
        Check.due("door(0, 3)", x.door(0, 3), 0);
        int[] acts = {1, 2, 0, 2, 2, 2};
        for (int h = 0; h < 6; h++) {
            Check.due("act(0, " + h + ")", x.act(0, h), acts[h]);
        }
        int[] counts = {4, 3, 3, 6, 4, 1, 5, 2, 2, 19, 0, 0, 0};
        for (int what = 0; what < counts.length; what++) {
            Check.due("count(" + what + ")", x.count(what), counts[what]);
        }
        Check.due("count(13)", x.count(13), -1);
        Check.due("count(-1)", x.count(-1), -1);
    }

    /**
     * Shop 0 rises to layer 1, is blown to the door at 1 0, sells for 4 and goes up to 2;
     * sinks to 1, is blown to 2 0, to 3 0; in hour 3 it has no gas, the valley ends, it cools
     * to the ground, where it stays. Shop 1 sells at once for 4 and goes up to 2; is blown
     * south in vain twice, west to 2 2, cools to 1, is blown east to 3 2 and has no goods.
     */
    private static void flight() {
        BalloonGrocers x = Check.told(19, TEXT);
        int[][] zero = {{1, 0, 2, 1, 1, 1, 4}, {2, 0, 1, 1, 0, 1, 4}, {3, 0, 1, 1, 0, 1, 4},
            {3, 0, 0, 1, 0, 1, 4}, {3, 0, 0, 1, 0, 1, 4}, {3, 0, 0, 1, 0, 1, 4}};
        int[][] one = {{3, 2, 2, 0, 0, 0, 4}, {3, 2, 2, 0, 0, 0, 4}, {3, 2, 2, 0, 0, 0, 4},
            {2, 2, 1, 0, 0, 0, 4}, {3, 2, 1, 0, 0, 0, 4}, {3, 2, 1, 0, 0, 0, 4}};
        int[][] whys = {{0, 0, 0, 2, 4, 4}, {0, 0, 3, 0, 0, 2}};
        int[][] blown = {{1, 1, 1, 0, 0, 0}, {0, 0, 0, 1, 1, 0}};
        for (int h = 0; h < 6; h++) {
            for (int what = 0; what < 7; what++) {
                Check.due("where(0, " + h + ", " + what + ")", x.where(0, h, what), zero[h][what]);
                Check.due("where(1, " + h + ", " + what + ")", x.where(1, h, what), one[h][what]);
            }
            for (int s = 0; s < 2; s++) {
                Check.due("why(" + s + ", " + h + ")", x.why(s, h), whys[s][h]);
                Check.due("blown(" + s + ", " + h + ")", x.blown(s, h), blown[s][h]);
            }
        }
        Check.due("vain(0)", x.vain(0), 3);
        Check.due("vain(1)", x.vain(1), 2);
        Check.due("sales(0, -1)", x.sales(0, -1), 1);
        Check.due("sales(0, 0)", x.sales(0, 0), 1);
        Check.due("sales(0, 1)", x.sales(0, 1), 0);
        Check.due("sold(0, 0)", x.sold(0, 0), 0);
        Check.due("sold(0, 1)", x.sold(0, 1), -1);
        Check.due("sold(0, -1)", x.sold(0, -1), -1);
        Check.due("money()", x.money(), 8);
        Check.due("richest()", x.richest(), 0);
        x.load(0, 5, 0);
        Check.due("richest() when shop 0 has no goods", x.richest(), 1);
        Check.due("why of no sand", Check.told(3, "valley wide 2 deep 2 layers 2 hours 1 cools 0;"
            + "shop at 0 0 0 sand 0 gas 0 goods 0;plan 0 0 rises;").why(0, 0), 1);
    }

    private static void bits() {
        BalloonGrocers x = Check.told(19, TEXT);
        Check.due("meets(0, 1)", x.meets(0, 1), 0);
        Check.due("meets(0, 0)", x.meets(0, 0), -2);
        Check.due("over(0, 3, 0)", x.over(0, 3, 0), 4 + 8 + 16 + 32);
        Check.due("over(0, 0, 0)", x.over(0, 0, 0), 0);
        Check.due("over(1, 2, 2)", x.over(1, 2, 2), 8);
        Check.due("grounded(0)", x.grounded(0), 8 + 16 + 32);
        Check.due("grounded(1)", x.grounded(1), 0);
        x = Check.told(3, "valley wide 2 deep 2 layers 2 hours 24 cools 0;"
            + "shop at 0 1 0 sand 0 gas 0 goods 0;shop at 0 1 1 sand 0 gas 1 goods 0;");
        Check.due("meets of one column alone", x.meets(0, 1), 0);
        x.plan(1, 20, 2);
        Check.due("meets(0, 1)", x.meets(0, 1), 15 << 20);
        Check.due("meets(1, 0)", x.meets(1, 0), 15 << 20);
        Check.due("grounded(0) of 24 hours", x.grounded(0), (1 << 24) - 1);
        Check.due("richest() of none that has any", x.richest(), 0);
        x = Check.told(1, "valley wide 2 deep 2 layers 2 hours 24 cools 0;");
        Check.due("richest() without shops", x.richest(), -1);
        Check.due("money() without shops", x.money(), 0);
    }

    private static void changes() {
        BalloonGrocers x = Check.told(19, TEXT);
        Check.due("undo() of nothing", x.undo(), -5);
        Check.due("plan(0, 0, 0)", x.plan(0, 0, 0), 1);
        Check.due("money() then", x.money(), 4);
        Check.due("plan(0, 0, 2)", x.plan(0, 0, 2), 0);
        Check.due("plan(1, 5, 1)", x.plan(1, 5, 1), 2);
        Check.due("plan(1, 5, 1) again", x.plan(1, 5, 1), 1);
        Check.due("count(11)", x.count(11), 4);
        int[][] due = {{0, 0, 0, 1}, {0, 0, 2, 0}, {1, 5, 1, 2}, {1, 5, 1, 1}};
        for (int i = 0; i < 4; i++) {
            for (int what = 0; what < 4; what++) {
                Check.due("changed(" + i + ", " + what + ")", x.changed(i, what), due[i][what]);
            }
        }
        Check.due("changed(4, 0)", x.changed(4, 0), -1);
        Check.due("changed(-1, 0)", x.changed(-1, 0), -1);
        Check.due("changed(0, 4)", x.changed(0, 4), -2);
        Check.due("changed(9, -1)", x.changed(9, -1), -2);
        Check.due("undo()", x.undo(), 3);
        Check.due("undo()", x.undo(), 2);
        Check.due("act(1, 5)", x.act(1, 5), 2);
        Check.due("undo()", x.undo(), 1);
        Check.due("act(0, 0)", x.act(0, 0), 0);
        Check.due("undo()", x.undo(), 0);
        Check.due("act(0, 0)", x.act(0, 0), 1);
        Check.due("undo()", x.undo(), -5);
        Check.due("changed(0, 0)", x.changed(0, 0), -1);
        Check.due("money() again", x.money(), 8);
        Check.due("plan(0, 0, 0) again", x.plan(0, 0, 0), 1);
        Check.due("money() by it", x.money(), 4);
        Check.due("undo() of it", x.undo(), 0);
        Check.due("money() without it", x.money(), 8);
        BalloonGrocers none = new BalloonGrocers();
        Check.due("undo() without a valley", none.undo(), -2);
        Check.due("changed(0, 0) without a valley", none.changed(0, 0), -2);
        Check.due("money() without a valley", none.money(), -2);
        Check.due("richest() without a valley", none.richest(), -2);
    }

    private static void tooManyChanges() {
        BalloonGrocers x = Check.told(19, TEXT);
        for (int i = 0; i < 60; i++) {
            Check.due("plan " + i, x.plan(0, 2, (i + 1) % 3), i % 3);
        }
        Check.due("plan 61", x.plan(0, 2, 1), -5);
        Check.due("plan 61 of no shop", x.plan(2, 2, 1), -2);
        Check.due("its act stays", x.act(0, 2), 0);
        Check.due("undo()", x.undo(), 59);
        Check.due("plan 60 again", x.plan(0, 1, 1), 2);
        Check.due("count(11)", x.count(11), 60);
    }

    private static void wrongAsked() {
        wrong(Check.told(19, TEXT), 2, 6, 3, 4);
        wrong(Check.told(19, TEXT), -1, -1, -1, -1);
        wrong(Check.told(19, TEXT), Integer.MAX_VALUE, Integer.MAX_VALUE, Integer.MAX_VALUE, Integer.MAX_VALUE);
        wrong(Check.told(19, TEXT), Integer.MIN_VALUE, Integer.MIN_VALUE, Integer.MIN_VALUE, Integer.MIN_VALUE);
        wrong(new BalloonGrocers(), 0, 0, 0, 0);
    }

    private static void wrong(BalloonGrocers x, int shop, int hour, int layer, int column) {
        Check.due("wind of no layer", x.wind(layer, 0), -2);
        Check.due("wind of no hour", x.wind(0, hour), -2);
        Check.due("often of no layer", x.often(layer, 0), -2);
        Check.due("often of no wind", x.often(0, layer < 0 ? -1 : 5), -2);
        Check.due("shop of no shop", x.shop(shop, 0), -2);
        Check.due("shop of no what", x.shop(0, 6), -2);
        Check.due("door of no door", x.door(shop, 0), -2);
        Check.due("door of no what", x.door(0, 4), -2);
        Check.due("act of no shop", x.act(shop, 0), -2);
        Check.due("act of no hour", x.act(0, hour), -2);
        Check.due("plan of no shop", x.plan(shop, 0, 0), -2);
        Check.due("plan of no hour", x.plan(0, hour, 0), -2);
        Check.due("plan of no act", x.plan(0, 0, 3), -2);
        Check.due("plan of no act", x.plan(0, 0, -1), -2);
        Check.due("where of no shop", x.where(shop, 0, 0), -2);
        Check.due("where of no hour", x.where(0, hour, 0), -2);
        Check.due("where of no what", x.where(0, 0, 7), -2);
        Check.due("where of no what", x.where(0, 0, -1), -2);
        Check.due("why of no shop", x.why(shop, 0), -2);
        Check.due("why of no hour", x.why(0, hour), -2);
        Check.due("vain of no shop", x.vain(shop), -2);
        Check.due("blown of no shop", x.blown(shop, 0), -2);
        Check.due("blown of no hour", x.blown(0, hour), -2);
        Check.due("sales of no shop", x.sales(shop, -1), -2);
        Check.due("sales of no door", x.sales(0, shop < 0 ? -2 : 2), -2);
        Check.due("sold of no shop", x.sold(shop, 0), -2);
        Check.due("meets of no shop", x.meets(0, shop), -2);
        Check.due("meets of no shop", x.meets(shop, 0), -2);
        Check.due("over of no shop", x.over(shop, 0, 0), -2);
        Check.due("over of no x", x.over(0, column, 0), -2);
        Check.due("over of no y", x.over(0, 0, column < 0 ? column : 3), -2);
        Check.due("grounded of no shop", x.grounded(shop), -2);
    }
}
