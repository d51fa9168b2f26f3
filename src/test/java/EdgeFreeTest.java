import java.util.function.IntToLongFunction;

/** The boundary cases of term III and of promises 25 to 38, sentence by sentence. */
public final class EdgeFreeTest {
    /** Layer 1 blows east; shop 0 begins in it with one sand and one gas, shop 1 on the ground with one sand. */
    private static final String EAST = "valley wide 3 deep 2 layers 2 hours 3 cools 0;wind 1 from 0 east;"
        + "shop at 0 0 1 sand 1 gas 1 goods 0;shop at 0 0 0 sand 1 gas 0 goods 0;shop at 2 1 0 sand 0 gas 9 goods 0;";
    private static final String STILL = "valley wide 2 deep 2 layers 3 hours 24 cools 0;";

    public static void main(String[] args) {
        notInVain();
        nobodySells();
        atTheirEnds();
        least();
        soonest();
        wayOrder();
        wayOfThatHour();
        wayWithItsGas();
        wayOfEach();
        wayNone();
        spots();
        columns();
        ways();
        tour();
        done();
        doors();
        fair();
        aloft();
        lasts();
        meet();
        rope();
        Check.finish("EdgeFreeTest");
    }

    private static void refusedBeyond(String call, IntToLongFunction ask, int least, int most) {
        Check.bounds(call, ask, least, most, -2);
    }

    private static String shop(int x, int y, int layer, int sand, int gas) {
        return "shop at " + x + " " + y + " " + layer + " sand " + sand + " gas " + gas + " goods 0;";
    }

    private static void notInVain() {
        Check.of("T3", "FREE: one SHOP alone, by any ACTS that are not in vain (with its sand and gas)");
        Check.due("ways on the ground without sand", Check.told(STILL + shop(0, 0, 0, 0, 9)).ways(0, 23), 1);
        Check.due("ways at the top without gas", Check.told(STILL + shop(0, 0, 2, 9, 0)).ways(0, 23), 1);
        Check.due("ways between without any", Check.told(STILL + shop(0, 0, 1, 0, 0)).ways(0, 23), 1);
        // One sand: it rises in one of the hours or never.
        Check.due("ways with one sand", Check.told(STILL + shop(0, 0, 0, 1, 0)).ways(0, 23), 25);
        Check.due("ways with one gas", Check.told(STILL + shop(0, 0, 2, 0, 1)).ways(0, 23), 25);
        BalloonGrocers x = Check.told(STILL + shop(0, 0, 0, 2, 0) + "plan 0 0 rises;plan 0 1 rises;");
        Check.due("spots whatever the plan", x.spots(0, 0), 2);
        Check.due("least of the top by one sand less", Check.told(STILL + shop(0, 0, 0, 1, 0)).least(0, 0, 0, 2), -1);
        Check.due("least of the top", x.least(0, 0, 0, 2), 2);
    }

    private static void nobodySells() {
        Check.of("T3", "nobody sells");
        BalloonGrocers x = Check.told(STILL + "sells within 2 price 9;shop at 0 0 0 sand 0 gas 0 goods 9;door at 0 0 wants 9;");
        Check.due("where(0, 0, 2) by the plan", x.where(0, 0, 2), 1);
        Check.due("least(0, 0, 0, 1)", x.least(0, 0, 0, 1), -1);
        Check.due("aloft(0)", x.aloft(0), 0);
        Check.due("spots(0, 23)", x.spots(0, 23), 1);
    }

    private static void atTheirEnds() {
        Check.of("T3", "HOURS are asked at their ends");
        BalloonGrocers x = Check.told(STILL.replace("cools 0", "cools 1") + shop(0, 0, 0, 9, 0));
        Check.due("least(0, 0, 0, 1): it has cooled", x.least(0, 0, 0, 1), -1);
        Check.due("aloft(0): it has cooled", x.aloft(0), 0);
        x = Check.told(EAST);
        Check.due("soonest(1, 0, 0, 1): it is blown off", x.soonest(1, 0, 0, 1), -1);
        Check.due("soonest(1, 1, 0, 1)", x.soonest(1, 1, 0, 1), 0);
    }

    private static void least() {
        Check.of("P25", "the least sand with which a SHOP can be in a CELL at the end of some HOUR");
        BalloonGrocers x = Check.told(EAST);
        Check.due("least(0, 1, 0, 1)", x.least(0, 1, 0, 1), 0);
        Check.due("least(1, 1, 0, 1)", x.least(1, 1, 0, 1), 1);
        Check.due("least(0, 2, 0, 0) behind the last hour", x.least(0, 2, 0, 0), 0);
        // Down to each cell of the ground and up again: nine sand for nine cells.
        BalloonGrocers nine = Check.told("valley wide 8 deep 8 layers 2 hours 24 cools 1;wind 1 from 0 east;wind 1 from 8 south;" + shop(0, 0, 0, 9, 0));
        Check.due("least of nine", nine.least(0, 7, 2, 0), 9);
        Check.due("least of ten", nine.least(0, 7, 3, 0), -1);
        Check.of("P25", "(0, if it is there at first)");
        Check.due("least(0, 0, 0, 1): never again", x.least(0, 0, 0, 1), 0);
        Check.due("least(1, 0, 0, 0)", x.least(1, 0, 0, 0), 0);
        Check.of("P25", "NONE: it never can");
        Check.due("least(0, 0, 1, 0)", x.least(0, 0, 1, 0), -1);
        Check.due("least(1, 1, 0, 0): no gas", x.least(1, 1, 0, 0), -1);
        Check.due("least(2, 2, 1, 1): no sand", x.least(2, 2, 1, 1), -1);
        Check.of("P25", "-2: there are none such");
        refusedBeyond("least(shop, 0, 0, 0)", n -> x.least(n, 0, 0, 0), 0, 2);
        refusedBeyond("least(0, x, 0, 0)", n -> x.least(0, n, 0, 0), 0, 2);
        refusedBeyond("least(0, 0, y, 0)", n -> x.least(0, 0, n, 0), 0, 1);
        refusedBeyond("least(0, 0, 0, layer)", n -> x.least(0, 0, 0, n), 0, 1);
    }

    private static void soonest() {
        Check.of("P26", "The first HOUR at whose end it can be there, whatever sand");
        BalloonGrocers x = Check.told(EAST);
        Check.due("soonest(0, 1, 0, 1)", x.soonest(0, 1, 0, 1), 0);
        Check.due("soonest(0, 2, 0, 0): the last hour", x.soonest(0, 2, 0, 0), 2);
        x.load(0, 3, 9);
        Check.due("soonest(0, 2, 0, 1)", x.soonest(0, 2, 0, 1), 1);
        Check.of("P26", "(NONE: it never can; it begins there: that does not count)");
        Check.due("soonest where it begins and is blown off", x.soonest(0, 0, 0, 1), -1);
        Check.due("soonest where it begins and stays", x.soonest(1, 0, 0, 0), 0);
        Check.due("soonest(0, 0, 1, 0)", x.soonest(0, 0, 1, 0), -1);
        // In hour 0 it is blown east, in hour 1 back.
        BalloonGrocers y = Check.told("valley wide 3 deep 2 layers 2 hours 3 cools 0;wind 1 from 0 east;wind 1 from 1 west;" + shop(0, 0, 1, 0, 0));
        Check.due("soonest where it comes back", y.soonest(0, 0, 0, 1), 1);
        Check.due("least where it comes back", y.least(0, 0, 0, 1), 0);
        Check.of("P26", "-2 likewise");
        refusedBeyond("soonest(shop, 0, 0, 0)", n -> x.soonest(n, 0, 0, 0), 0, 2);
        refusedBeyond("soonest(0, x, 0, 0)", n -> x.soonest(0, n, 0, 0), 0, 2);
        refusedBeyond("soonest(0, 0, y, 0)", n -> x.soonest(0, 0, n, 0), 0, 1);
        refusedBeyond("soonest(0, 0, 0, layer)", n -> x.soonest(0, 0, 0, n), 0, 1);
    }

    private static void row(String name, BalloonGrocers x, int[] cell, int... due) {
        for (int hour = 0; hour < due.length; hour++) {
            Check.due(name + " in " + hour, x.way(0, cell[0], cell[1], cell[2], hour), due[hour]);
        }
    }

    private static void wayOrder() {
        Check.of("P27", "The ACT in an HOUR by the first row of ACTS (0 ahead of 1 ahead of 2, HOUR 0 first)");
        // It may rise in hour 0 or in hour 1: the wind comes in hour 1.
        BalloonGrocers x = Check.told("valley wide 2 deep 2 layers 2 hours 3 cools 0;wind 1 from 1 east;" + shop(0, 0, 0, 1, 0));
        row("hangs, rises", x, new int[] {1, 0, 1}, 0, 1, -1);
        // It may go out of the wind upwards or downwards.
        x = Check.told("valley wide 3 deep 2 layers 3 hours 3 cools 0;wind 1 from 0 south;wind 1 from 1 east;" + shop(1, 0, 1, 9, 9));
        row("rises, sinks", x, new int[] {2, 0, 1}, 1, 2, -1);
        // It hangs in the wind or comes down in either hour.
        x = Check.told("valley wide 2 deep 2 layers 2 hours 3 cools 0;wind 1 from 0 north;" + shop(0, 1, 1, 0, 9));
        row("sinks at last", x, new int[] {0, 0, 0}, 0, 2, -1);
        row("sinks at once", x, new int[] {0, 1, 0}, 2, -1, -1);
    }

    private static void wayOfThatHour() {
        Check.of("P27", "at the end of the first such HOUR with least sand (of that HOUR)");
        // Hanging it is at 2 0 1 behind hour 2, without sand; over layer 2 it is there behind hour 1.
        BalloonGrocers x = Check.told("valley wide 4 deep 2 layers 3 hours 4 cools 0;wind 1 from 1 east;wind 2 from 0 east;" + shop(0, 0, 1, 5, 5));
        Check.due("least(0, 2, 0, 1)", x.least(0, 2, 0, 1), 0);
        Check.due("soonest(0, 2, 0, 1)", x.soonest(0, 2, 0, 1), 1);
        row("the first hour", x, new int[] {2, 0, 1}, 1, 2, -1, -1);
        // Rising twice and sinking brings it there in hour 2 too, but rising once is less; sinking comes last then.
        x = Check.told("valley wide 2 deep 2 layers 4 hours 3 cools 0;wind 1 from 0 south;wind 2 from 2 east;wind 1 from 2 still;" + shop(0, 0, 1, 5, 5));
        row("least sand", x, new int[] {1, 0, 2}, 1, 0, 0);
    }

    private static void wayWithItsGas() {
        Check.of("P27", "The ACT in an HOUR by the first row of ACTS");
        // With three gas it could hang in hour 1 and sink twice behind it; it has two.
        BalloonGrocers x = Check.told("valley wide 3 deep 2 layers 4 hours 5 cools 4;wind 1 from 0 south;wind 1 from 3 east;wind 2 from 1 east;wind 2 from 2 west;"
            + "wind 2 from 3 east;" + shop(0, 0, 3, 1, 2));
        row("two gas", x, new int[] {1, 1, 0}, 2, 2, 0, 0, -1);
        // It rises into the south wind, sinks, and has no gas then: it rides to the end and back, and cools to the ground.
        x = Check.told("valley wide 3 deep 2 layers 2 hours 6 cools 3;wind 1 from 0 south;wind 1 from 1 north;wind 1 from 3 east;wind 1 from 5 west;"
            + shop(0, 0, 0, 4, 1));
        row("one gas", x, new int[] {1, 1, 0}, 1, 2, 0, 1, 0, 0);
        // In each wind to the valley's end, and down there.
        String[] winds = {"north", "east", "south", "west"};
        int[][] far = {{4, 0}, {7, 4}, {4, 7}, {0, 4}};
        for (int i = 0; i < 4; i++) {
            x = Check.told("valley wide 8 deep 8 layers 2 hours 7 cools 0;wind 1 from 0 " + winds[i] + ";" + shop(4, 4, 0, 1, 1));
            int[] hours = {4, 3, 3, 4};
            for (int h = 0; h < 7; h++) {
                Check.due("way " + winds[i] + " to the end in " + h, x.way(0, far[i][0], far[i][1], 0, h), h > hours[i] ? -1 : h == 0 ? 1 : h == hours[i] ? 2 : 0);
            }
            Check.due("soonest " + winds[i] + " to the end", x.soonest(0, far[i][0], far[i][1], 1), hours[i] - 1);
            Check.due("spots of the last hour", x.spots(0, 6), 2 * hours[i] + 1);
        }
    }

    /** Asked by turns, of shops and of cells. */
    private static void wayOfEach() {
        Check.of("P27", "by which it is in a CELL at the end of the first such HOUR");
        BalloonGrocers x = Check.told("valley wide 3 deep 2 layers 2 hours 3 cools 0;wind 1 from 0 east;" + shop(0, 0, 1, 1, 1) + shop(0, 0, 0, 1, 1));
        for (int i = 0; i < 2; i++) {
            Check.due("way(0, 1, 0, 1, 0)", x.way(0, 1, 0, 1, 0), 0);
            Check.due("way(1, 1, 0, 1, 0)", x.way(1, 1, 0, 1, 0), 1);
            Check.due("way(0, 1, 0, 1, 0)", x.way(0, 1, 0, 1, 0), 0);
            Check.due("way(0, 0, 0, 0, 0)", x.way(0, 0, 0, 0, 0), 2);
            Check.due("way(1, 0, 0, 0, 0)", x.way(1, 0, 0, 0, 0), 0);
            Check.due("way(1, 0, 0, 1, 0)", x.way(1, 0, 0, 1, 0), -1);
        }
        x.turn(1, 0, 0);
        Check.due("way(1, 0, 0, 1, 0) by another wind", x.way(1, 0, 0, 1, 0), 1);
        Check.due("soonest(0, 1, 0, 1) by another wind", x.soonest(0, 1, 0, 1), 1);
        x.load(1, 3, 0);
        Check.due("way(1, 0, 0, 1, 0) without sand", x.way(1, 0, 0, 1, 0), -1);
    }

    private static void wayNone() {
        BalloonGrocers x = Check.told(EAST);
        Check.of("P27", "NONE: it never can");
        row("never", x, new int[] {0, 1, 0}, -1, -1, -1);
        row("never again where it begins", x, new int[] {0, 0, 1}, -1, -1, -1);
        Check.of("P27", "it is there already then");
        row("there behind hour 0", x, new int[] {1, 0, 1}, 0, -1, -1);
        row("there behind hour 1", x, new int[] {2, 0, 1}, 0, 0, -1);
        row("there behind the last hour", x, new int[] {2, 0, 0}, 0, 0, 2);
        Check.of("P27", "-2 likewise");
        refusedBeyond("way(shop, 0, 0, 0, 0)", n -> x.way(n, n == 2 ? 2 : 0, n == 2 ? 1 : 0, 0, 0), 0, 2);
        refusedBeyond("way(0, x, 0, 1, 0)", n -> x.way(0, n, 0, 1, 0), 0, 2);
        refusedBeyond("way(0, 0, y, 0, 0)", n -> x.way(0, 0, n, 0, 0), 0, 1);
        refusedBeyond("way(0, 0, 0, layer, 0)", n -> x.way(0, 0, 0, n, 0), 0, 1);
        refusedBeyond("way(0, 2, 0, 0, hour)", n -> x.way(0, 2, 0, 0, n), 0, 2);
    }

    private static void spots() {
        Check.of("P28", "In how many CELLS it can be at the end of an HOUR");
        BalloonGrocers x = Check.told(EAST);
        Check.due("spots(2, 0): where it stands", x.spots(2, 0), 1);
        Check.due("spots(0, 0)", x.spots(0, 0), 2);
        // Behind hour 1: 2 0 1 (hanging), 1 0 0, 0 0 0 (down), 1 0 1 (down and up).
        Check.due("spots(0, 1)", x.spots(0, 1), 4);
        Check.of("P28", "-2: there are none such");
        refusedBeyond("spots(shop, 0)", n -> x.spots(n, 0), 0, 2);
        refusedBeyond("spots(0, hour)", n -> x.spots(0, n), 0, 2);
    }

    private static void columns() {
        Check.of("P29", "Columns over which it can be at the end of an HOUR");
        BalloonGrocers x = Check.told(EAST);
        Check.due("columns(2, 2)", x.columns(2, 2), 1);
        Check.due("columns(0, 0)", x.columns(0, 0), 2);
        Check.due("columns(0, 1): one column twice", x.columns(0, 1), 3);
        Check.of("P29", "-2 likewise");
        refusedBeyond("columns(shop, 0)", n -> x.columns(n, 0), 0, 2);
        refusedBeyond("columns(0, hour)", n -> x.columns(0, n), 0, 2);
    }

    private static void ways() {
        Check.of("P30", "By how many rows of ACTS (none in vain) up to an HOUR");
        int[] due = {2, 3, 2};
        for (int layer = 0; layer < 3; layer++) {
            Check.due("ways of hour 0 in layer " + layer, Check.told(STILL + shop(0, 0, layer, 9, 9)).ways(0, 0), due[layer]);
        }
        // Of two layers: it rises and sinks by turns, at most nine times each.
        long rows = 0;
        long choose = 1;
        for (int k = 0; k <= 18; k++) {
            rows += choose;
            choose = choose * (24 - k) / (k + 1);
        }
        Check.due("ways(0, 23) of two layers", Check.told("valley wide 2 deep 2 layers 2 hours 24 cools 0;" + shop(0, 0, 0, 9, 9)).ways(0, 23), rows);
        Check.due("ways(0, 23) of five layers", Check.told("valley wide 2 deep 2 layers 5 hours 24 cools 0;" + shop(0, 0, 2, 9, 9)).ways(0, 23), rowsFrom(24, 2, 9, 9));
        Check.due("that is more than an int holds", rowsFrom(24, 2, 9, 9) > Integer.MAX_VALUE ? 1 : 0, 1);
        Check.of("P30", "-2 likewise");
        BalloonGrocers x = Check.told(EAST);
        refusedBeyond("ways(shop, 0)", n -> x.ways(n, 0), 0, 2);
        refusedBeyond("ways(0, hour)", n -> x.ways(0, n), 0, 2);
    }

    /** Rows of acts in five layers without cooling: act by act backwards. */
    private static long rowsFrom(int hours, int layer, int sand, int gas) {
        long[][][] now = new long[5][10][10];
        for (long[][] a : now) {
            for (long[] b : a) {
                java.util.Arrays.fill(b, 1);
            }
        }
        for (int i = 0; i < hours; i++) {
            long[][][] next = new long[5][10][10];
            for (int l = 0; l < 5; l++) {
                for (int s = 0; s < 10; s++) {
                    for (int g = 0; g < 10; g++) {
                        next[l][s][g] = now[l][s][g] + (l < 4 && s > 0 ? now[l + 1][s - 1][g] : 0) + (l > 0 && g > 0 ? now[l - 1][s][g - 1] : 0);
                    }
                }
            }
            now = next;
        }
        return now[layer][sand][gas];
    }

    /** Doors in a row to the east, in layer 1 the wind; the shop begins over door 0. */
    private static BalloonGrocers street(int reach, int layer, int sand, int gas) {
        return Check.told("valley wide 5 deep 2 layers 3 hours 5 cools 0;sells within " + reach + " price 1;wind 1 from 0 east;" + shop(0, 0, layer, sand, gas)
            + "door at 0 0 wants 0;door at 1 0 wants 0;door at 2 0 wants 0;door at 4 0 wants 0;door at 0 1 wants 0;");
    }

    private static void tour() {
        Check.of("P31", "the least sand with which it can come down to all DOORS of a set (bits)");
        BalloonGrocers x = street(0, 0, 9, 9);
        int[] due = {0, 0, 1, 1, 1, 1, 2, 2};
        for (int set = 0; set < 8; set++) {
            Check.due("tour(0, " + set + ")", x.tour(0, set), due[set]);
        }
        // Doors 1 and 3: up, down at 1, up, blown to 2, 3, 4, and down would be hour 5: too late.
        Check.due("tour(0, 8): down in the last hour", x.tour(0, 8), 1);
        Check.due("tour(0, 10)", x.tour(0, 10), -1);
        Check.of("P31", "to each within reach at the end of some HOUR (or at first)");
        Check.due("tour of door 0 at first", street(0, 0, 0, 0).tour(0, 1), 0);
        Check.due("tour of door 0 from above reach", street(0, 1, 0, 0).tour(0, 1), -1);
        Check.due("tour of door 0 in reach", street(1, 1, 0, 0).tour(0, 1), 0);
        Check.due("tour of doors 0 to 3 in reach", street(1, 1, 0, 0).tour(0, 15), 0);
        Check.due("tour of doors 0 to 3 above reach", street(0, 1, 0, 0).tour(0, 8), -1);
        Check.due("tour of door 0 from the top", street(1, 2, 0, 9).tour(0, 1), -1);
        Check.due("tour of door 0 from the top in reach", street(2, 2, 0, 0).tour(0, 1), 0);
        // Over all five in one go, from the west and from the east: each set lies on the way.
        String[] ends = {"wind 1 from 0 east;" + shop(0, 0, 1, 0, 0), "wind 1 from 0 west;" + shop(4, 0, 1, 0, 0)};
        for (String end : ends) {
            BalloonGrocers all = Check.told("valley wide 5 deep 2 layers 2 hours 4 cools 0;sells within 1 price 1;" + end
                + "door at 0 0 wants 0;door at 1 0 wants 0;door at 2 0 wants 0;door at 3 0 wants 0;door at 4 0 wants 0;");
            for (int set = 0; set < 32; set++) {
                Check.due("tour(0, " + set + ") over all five", all.tour(0, set), 0);
                int far = end.contains("east") ? 31 - Integer.numberOfLeadingZeros(set) : 4 - Integer.numberOfTrailingZeros(set);
                Check.due("done(0, " + set + ") over all five", all.done(0, set), set == 0 || far == 0 ? -1 : far - 1);
            }
        }
        Check.of("P31", "NONE: it can't");
        Check.due("tour(0, 16)", x.tour(0, 16), -1);
        Check.due("tour(0, 31)", x.tour(0, 31), -1);
        Check.due("tour(0, 2) without sand", street(0, 0, 0, 9).tour(0, 2), -1);
        Check.due("tour(0, 2) without gas", street(0, 0, 9, 0).tour(0, 2), -1);
        Check.of("P31", "-2: there are none such");
        refusedBeyond("tour(shop, 0)", n -> x.tour(n, 0), 0, 0);
        refusedBeyond("tour(0, set) of five doors", n -> x.tour(0, n), 0, 31);
        BalloonGrocers none = Check.told(STILL + shop(0, 0, 0, 0, 0));
        refusedBeyond("tour(0, set) without doors", n -> none.tour(0, n), 0, 0);
    }

    private static void done() {
        Check.of("P32", "The HOUR at whose end a TOUR can be over first, whatever sand");
        BalloonGrocers x = street(0, 0, 9, 9);
        int[] due = {-1, -1, 1, 1, 2, 2, 3, 3, 4};
        for (int set = 0; set < due.length; set++) {
            Check.due("done(0, " + set + ")", x.done(0, set), due[set]);
        }
        // By layer 2 it is over the door in the next hour, by hanging in the hour behind it.
        BalloonGrocers y = Check.told("valley wide 3 deep 2 layers 3 hours 4 cools 0;sells within 2 price 1;wind 1 from 1 east;wind 2 from 0 east;"
            + shop(0, 0, 1, 1, 0) + "door at 1 0 wants 0;");
        Check.due("tour(0, 1)", y.tour(0, 1), 0);
        Check.due("done(0, 1)", y.done(0, 1), 0);
        Check.of("P32", "NONE: never, or it is at first");
        Check.due("done(0, 16)", x.done(0, 16), -1);
        Check.due("done(0, 0)", x.done(0, 0), -1);
        Check.due("done(0, 1)", x.done(0, 1), -1);
        Check.due("done(0, 1) from above reach", street(0, 1, 0, 1).done(0, 1), 0);
        Check.of("P32", "-2 likewise");
        refusedBeyond("done(shop, 2)", n -> x.done(n, 2), 0, 0);
        refusedBeyond("done(0, set)", n -> x.done(0, n), 0, 31);
    }

    private static void doors() {
        Check.of("P33", "The most DOORS that it can come down to, with n sand (0 .. 9) at most (what 0)");
        BalloonGrocers x = street(0, 0, 9, 9);
        int[] most = {1, 2, 3, 3, 3, 3, 3, 3, 3, 3};
        int[] sets = {1, 3, 7, 7, 7, 7, 7, 7, 7, 7};
        for (int n = 0; n <= 9; n++) {
            Check.due("doors(0, " + n + ", 0)", x.doors(0, n, 0), most[n]);
        }
        Check.due("doors with less sand than n", street(0, 0, 1, 9).doors(0, 9, 0), 2);
        Check.due("doors with none", street(0, 1, 0, 0).doors(0, 9, 0), 0);
        Check.of("P33", "the least set of so many (1: as bits)");
        for (int n = 0; n <= 9; n++) {
            Check.due("doors(0, " + n + ", 1)", x.doors(0, n, 1), sets[n]);
        }
        // From between two doors it comes to one of them.
        BalloonGrocers y = Check.told("valley wide 3 deep 2 layers 3 hours 1 cools 0;sells within 2 price 1;wind 1 from 0 east;wind 2 from 0 west;"
            + shop(1, 0, 1, 1, 0) + "door at 1 1 wants 0;door at 2 0 wants 0;door at 0 0 wants 0;");
        Check.due("doors(0, 0, 1)", y.doors(0, 0, 1), 2);
        Check.due("doors(0, 1, 1)", y.doors(0, 1, 1), 2);
        Check.due("doors(0, 1, 0)", y.doors(0, 1, 0), 1);
        Check.due("doors with none, as bits", street(0, 1, 0, 0).doors(0, 9, 1), 0);
        Check.of("P33", "-2: there are none such");
        refusedBeyond("doors(shop, 0, 0)", n -> x.doors(n, 0, 0), 0, 0);
        refusedBeyond("doors(0, n, 0)", n -> x.doors(0, n, 0), 0, 9);
        refusedBeyond("doors(0, 0, what)", n -> x.doors(0, 0, n), 0, 1);
        Check.due("doors(0, 0, 0) without doors", Check.told(STILL + shop(0, 0, 0, 0, 0)).doors(0, 0, 0), 0);
    }

    private static void fair() {
        Check.of("P34", "the most HOURS of its time at whose end a SHOP can be over it");
        String[] times = {"0 to 23", "0 to 0", "23 to 23", "5 to 7"};
        int[] stays = {24, 1, 1, 3};
        for (int i = 0; i < times.length; i++) {
            Check.due("fair from " + times[i] + " where it stands", Check.told(STILL + shop(1, 1, 0, 0, 0) + "fair at 1 1 from " + times[i] + ";").fair(0), stays[i]);
            Check.due("fair from " + times[i] + " where it hangs", Check.told(STILL + shop(1, 1, 2, 9, 9) + "fair at 1 1 from " + times[i] + ";").fair(0), stays[i]);
            Check.due("fair from " + times[i] + " elsewhere", Check.told(STILL + shop(1, 1, 0, 9, 9) + "fair at 1 0 from " + times[i] + ";").fair(0), 0);
        }
        String sizes = "valley wide 5 deep 2 layers 2 hours 5 cools 0;wind 1 from 0 east;" + shop(0, 0, 1, 0, 1);
        Check.due("fair in the hour in which it is there", Check.told(sizes + "fair at 2 0 from 1 to 1;").fair(0), 1);
        Check.due("fair in the hour ahead", Check.told(sizes + "fair at 2 0 from 0 to 0;").fair(0), 0);
        Check.due("fair: down to stay", Check.told(sizes + "fair at 2 0 from 0 to 4;").fair(0), 4);
        Check.due("fair: in its hours alone", Check.told(sizes + "fair at 2 0 from 0 to 2;").fair(0), 2);
        Check.of("P34", "NONE: there is no fair");
        Check.due("fair(0)", Check.told(sizes).fair(0), -1);
        Check.of("P34", "-2: there is no such SHOP");
        BalloonGrocers x = Check.told(sizes + sizes.substring(sizes.indexOf("shop")) + "fair at 2 0 from 0 to 4;");
        refusedBeyond("fair(shop)", x::fair, 0, 1);
        Check.due("fair(1) without a fair: asked first", Check.told(sizes).fair(1), -2);
    }

    private static void aloft() {
        Check.of("P35", "The most HOURS at whose end it can be above the ground");
        Check.due("aloft of one that hangs", Check.told(STILL + shop(0, 0, 1, 0, 9)).aloft(0), 24);
        Check.due("aloft of one that rises at once", Check.told(STILL + shop(0, 0, 0, 1, 9)).aloft(0), 24);
        Check.due("aloft of one that can't", Check.told(STILL + shop(0, 0, 0, 0, 9)).aloft(0), 0);
        String cool = STILL.replace("cools 0", "cools 2");
        Check.due("aloft where it cools each second hour", Check.told(cool + shop(0, 0, 1, 0, 0)).aloft(0), 1);
        // Each sand lasts for two hours more at most: from layer 1 in hours 0 .. 2 by one sand.
        Check.due("aloft by one sand", Check.told(cool + shop(0, 0, 1, 1, 0)).aloft(0), 3);
        Check.due("aloft where it cools in the last hour", Check.told(STILL.replace("cools 0", "cools 24") + shop(0, 0, 1, 0, 0)).aloft(0), 23);
        Check.of("P35", "-2: there is none such");
        BalloonGrocers x = Check.told(STILL + shop(0, 0, 0, 0, 0).repeat(4));
        refusedBeyond("aloft(shop)", x::aloft, 0, 3);
    }

    private static void lasts() {
        Check.of("P36", "The last HOUR at whose end it can be above the ground");
        Check.due("lasts of one that hangs", Check.told(STILL + shop(0, 0, 1, 0, 9)).lasts(0), 23);
        Check.due("lasts where it cools in the last hour", Check.told(STILL.replace("cools 0", "cools 24") + shop(0, 0, 1, 0, 0)).lasts(0), 22);
        Check.due("lasts where it cools in hour 1", Check.told(STILL.replace("cools 0", "cools 2") + shop(0, 0, 1, 0, 0)).lasts(0), 0);
        Check.due("lasts of one that waits with its sand", Check.told(STILL.replace("cools 0", "cools 2") + shop(0, 0, 0, 1, 0)).lasts(0), 22);
        // From layer 1 it must rise in each hour: nine times.
        Check.due("lasts where it cools always", Check.told(STILL.replace("cools 0", "cools 1") + shop(0, 0, 1, 9, 9)).lasts(0), 8);
        Check.of("P36", "NONE: in none");
        Check.due("lasts of one that stands", Check.told(STILL + shop(0, 0, 0, 0, 9)).lasts(0), -1);
        Check.due("lasts of two layers where it cools always", Check.told("valley wide 2 deep 2 layers 2 hours 24 cools 1;" + shop(0, 0, 1, 9, 9)).lasts(0), -1);
        Check.of("P36", "-2 likewise");
        BalloonGrocers x = Check.told(STILL + shop(0, 0, 1, 0, 0).repeat(4));
        refusedBeyond("lasts(shop)", x::lasts, 0, 3);
    }

    private static void meet() {
        Check.of("P37", "The first HOUR at whose end two SHOPS can be in one CELL, each FREE");
        BalloonGrocers x = Check.told(EAST);
        // Shop 0 sinks in hour 0 to where shop 1 stands.
        Check.due("meet(0, 1)", x.meet(0, 1), 0);
        Check.due("meet(1, 0)", x.meet(1, 0), 0);
        String wide = "valley wide 8 deep 2 layers 2 hours 7 cools 0;wind 1 from 0 east;";
        Check.due("meet in the last hour", Check.told(wide + shop(0, 0, 1, 0, 0) + shop(7, 0, 1, 0, 0)).meet(0, 1), 6);
        Check.due("meet of two that are in one cell at first", Check.told(wide + shop(0, 0, 1, 0, 0) + shop(0, 0, 1, 0, 0)).meet(0, 1), 0);
        Check.due("meet of two that stand in one cell", Check.told(wide + shop(3, 1, 0, 0, 0) + shop(3, 1, 0, 0, 0)).meet(0, 1), 0);
        Check.due("meet of two that part at once", Check.told(wide + shop(0, 0, 1, 0, 0) + shop(0, 0, 0, 0, 0)).meet(0, 1), -1);
        Check.of("P37", "NONE: they never can");
        Check.due("meet one hour too late", Check.told(wide.replace("hours 7", "hours 6") + shop(0, 0, 1, 0, 0) + shop(7, 0, 1, 0, 0)).meet(0, 1), -1);
        Check.due("meet in one column, not in one layer", Check.told(wide + shop(7, 0, 1, 0, 0) + shop(7, 0, 0, 0, 0)).meet(0, 1), -1);
        Check.of("P37", "-2: there are none such");
        refusedBeyond("meet(shop, other)", n -> x.meet(n, n == 2 ? 1 : 2), 0, 2);
        refusedBeyond("meet(other, shop)", n -> x.meet(n == 2 ? 1 : 2, n), 0, 2);
        Check.of("P37", "one twice");
        for (int shop = 0; shop < 3; shop++) {
            Check.due("meet of one twice", x.meet(shop, shop), -2);
        }
    }

    private static void rope() {
        Check.of("P38", "in CELLS of which x, y, LAYER each are no more than one apart");
        String wide = "valley wide 8 deep 8 layers 5 hours 3 cools 0;";
        int[][] near = {{3, 3, 2}, {4, 3, 2}, {2, 3, 2}, {3, 4, 2}, {3, 2, 2}, {3, 3, 3}, {3, 3, 1}, {4, 4, 3}, {2, 2, 1}, {4, 2, 3}, {2, 4, 1}};
        for (int[] n : near) {
            Check.due("rope to " + n[0] + n[1] + n[2], Check.told(wide + shop(3, 3, 2, 0, 0) + shop(n[0], n[1], n[2], 0, 0)).rope(0, 1), 0);
        }
        Check.of("P38", "NONE, -2 likewise");
        int[][] far = {{5, 3, 2}, {1, 3, 2}, {3, 5, 2}, {3, 1, 2}, {3, 3, 4}, {3, 3, 0}, {5, 4, 3}, {4, 5, 3}, {4, 4, 4}};
        for (int[] n : far) {
            Check.due("rope to " + n[0] + n[1] + n[2], Check.told(wide + shop(3, 3, 2, 0, 0) + shop(n[0], n[1], n[2], 0, 0)).rope(0, 1), -1);
        }
        int[][] corners = {{7, 2}, {7, 4}, {0, 2}, {0, 4}};
        for (int[] c : corners) {
            Check.due("rope round the valley's end", Check.told(wide + shop(7 - c[0], 3, 2, 0, 0) + shop(c[0], c[1], 2, 0, 0)).rope(0, 1), -1);
        }
        Check.due("rope round the valley's end", Check.told(wide + shop(0, 0, 2, 0, 0) + shop(0, 7, 2, 0, 0)).rope(0, 1), -1);
        BalloonGrocers x = Check.told("valley wide 8 deep 2 layers 2 hours 6 cools 0;wind 1 from 0 east;" + shop(0, 0, 1, 0, 0) + shop(7, 1, 0, 0, 0) + shop(7, 1, 0, 0, 0));
        Check.due("rope in the last hour", x.rope(0, 1), 5);
        x = Check.told("valley wide 8 deep 2 layers 2 hours 5 cools 0;wind 1 from 0 east;" + shop(0, 0, 1, 0, 0) + shop(7, 1, 0, 0, 0) + shop(7, 1, 0, 0, 0));
        Check.due("rope one hour too late", x.rope(0, 1), -1);
        BalloonGrocers y = x;
        refusedBeyond("rope(shop, other)", n -> y.rope(n, n == 2 ? 1 : 2), 0, 2);
        refusedBeyond("rope(other, shop)", n -> y.rope(n == 2 ? 1 : 2, n), 0, 2);
        for (int shop = 0; shop < 3; shop++) {
            Check.due("rope of one twice", y.rope(shop, shop), -2);
        }
    }
}
