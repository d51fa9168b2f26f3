import java.util.function.IntToLongFunction;

/** The boundary cases of term IV and of promises 39 to 48, sentence by sentence. */
public final class EdgeDropTest {
    /** Layer 1 blows east, layer 2 south; shop 0 hangs in layer 2, shop 1 in layer 1, shop 2 stands. */
    private static final String TEXT = "valley wide 4 deep 3 layers 3 hours 4 cools 0;sells within 1 price 2;wind 1 from 0 east;wind 2 from 0 south;"
        + "shop at 0 0 2 sand 0 gas 0 goods 0;shop at 0 1 1 sand 0 gas 0 goods 0;shop at 3 2 0 sand 0 gas 0 goods 0;";

    public static void main(String[] args) {
        drop();
        lands();
        landsNone();
        who();
        first();
        suspects();
        drift();
        whence();
        smoke();
        smokeRefused();
        kites();
        kitesRefused();
        known();
        price();
        Check.finish("EdgeDropTest");
    }

    private static void refusedBeyond(String call, IntToLongFunction ask, int least, int most) {
        Check.bounds(call, ask, least, most, -2);
    }

    private static void drop() {
        Check.of("T4", "DROP: from the LAYER where it is; from the next HOUR on in each HOUR it is carried by the WIND of its LAYER (where it can), then falls by a LAYER");
        // Each hour has a wind of its own: what falls behind hour 0 meets layer 2 in hour 1, layer 1 in hour 2.
        BalloonGrocers x = Check.told("valley wide 5 deep 5 layers 3 hours 4 cools 0;wind 2 from 0 north;wind 2 from 1 east;wind 2 from 2 still;"
            + "wind 1 from 0 south;wind 1 from 1 south;wind 1 from 2 west;wind 1 from 3 north;shop at 2 2 2 sand 0 gas 0 goods 0;");
        // The shop is at 2 1, 3 1, 3 1, 3 1.
        Check.due("lands(0, 0): east in 2, west in 1", x.lands(0, 0), 201);
        Check.due("lands(0, 1): stays in 2, north in 1", x.lands(0, 1), 300);
        x = Check.told("valley wide 2 deep 2 layers 3 hours 4 cools 0;wind 2 from 0 east;wind 1 from 0 south;shop at 1 0 2 sand 0 gas 0 goods 0;");
        Check.due("lands(0, 0) at the valley's end", x.lands(0, 0), 101);
        // Cooling is for shops alone: it falls by one layer an hour.
        x = Check.told("valley wide 5 deep 5 layers 3 hours 4 cools 1;wind 2 from 0 east;wind 1 from 0 east;shop at 0 0 2 sand 9 gas 0 goods 0;plan 0 0 rises;");
        Check.due("where(0, 0, 2)", x.where(0, 0, 2), 1);
        Check.due("lands(0, 0)", x.lands(0, 0), 200);
        Check.of("T4", "on the ground it lies (from the ground: at once)");
        x = Check.told(TEXT);
        for (int hour = 0; hour < 4; hour++) {
            Check.due("lands(2, " + hour + ")", x.lands(2, hour), 302);
        }
    }

    private static void lands() {
        Check.of("P39", "DROP (IV) of what a SHOP lets fall at the end of an HOUR by the PLAN: 100 times x and y where it lies");
        BalloonGrocers x = Check.told(TEXT);
        // Shop 0 is at 0 1, 0 2, ..: south in layer 2, then east in layer 1. Shop 1 is at 1 1, 2 1, 3 1, 3 1.
        Check.due("lands(0, 0)", x.lands(0, 0), 102);
        Check.due("lands(0, 1)", x.lands(0, 1), 102);
        Check.due("lands(1, 0)", x.lands(1, 0), 201);
        Check.due("lands(1, 2)", x.lands(1, 2), 301);
    }

    private static void landsNone() {
        BalloonGrocers x = Check.told(TEXT);
        Check.of("P39", "NONE: the HOURS are over ahead");
        Check.due("lands(0, 1): in the last hour", x.lands(0, 1), 102);
        Check.due("lands(0, 2)", x.lands(0, 2), -1);
        Check.due("lands(0, 3)", x.lands(0, 3), -1);
        Check.due("lands(1, 2): in the last hour", x.lands(1, 2), 301);
        Check.due("lands(1, 3)", x.lands(1, 3), -1);
        Check.due("lands(2, 3): from the ground", x.lands(2, 3), 302);
        BalloonGrocers high = Check.told("valley wide 2 deep 2 layers 5 hours 24 cools 0;shop at 1 0 4 sand 0 gas 0 goods 0;");
        Check.due("lands from layer 4 behind hour 19", high.lands(0, 19), 100);
        Check.due("lands from layer 4 behind hour 20", high.lands(0, 20), -1);
        Check.of("P39", "-2: there are none such");
        refusedBeyond("lands(shop, 0)", n -> x.lands(n, 0), 0, 2);
        refusedBeyond("lands(0, hour)", n -> x.lands(0, n), 0, 3);
    }

    private static void who() {
        Check.of("P40", "how many pairs of a SHOP and an HOUR there are whose DROP lies in a column (from above the ground)");
        BalloonGrocers x = Check.told(TEXT);
        Check.due("who(1, 2): hours 0, 1 of shop 0", x.who(1, 2), 2);
        Check.due("who(2, 1)", x.who(2, 1), 1);
        Check.due("who(3, 1): hours 1, 2 of shop 1", x.who(3, 1), 2);
        Check.due("who(3, 2): from the ground", x.who(3, 2), 0);
        BalloonGrocers all = Check.told("valley wide 2 deep 2 layers 2 hours 24 cools 0;" + "shop at 1 1 1 sand 0 gas 0 goods 0;".repeat(4));
        Check.due("who(1, 1) of four shops in all hours but the last", all.who(1, 1), 4 * 23);
        Check.of("P40", "-2: there is no such column");
        refusedBeyond("who(x, 0)", n -> x.who(n, 0), 0, 3);
        refusedBeyond("who(0, y)", n -> x.who(0, n), 0, 2);
        Check.due("who(0, 0) without shops", Check.told("valley wide 2 deep 2 layers 2 hours 1 cools 0;").who(0, 0), 0);
    }

    private static void first() {
        Check.of("P41", "The first of them (100 times the SHOP and the HOUR)");
        BalloonGrocers x = Check.told(TEXT);
        Check.due("first(1, 2)", x.first(1, 2), 0);
        Check.due("first(2, 1)", x.first(2, 1), 100);
        Check.due("first(3, 1)", x.first(3, 1), 101);
        BalloonGrocers last = Check.told("valley wide 2 deep 2 layers 2 hours 24 cools 0;" + "shop at 0 0 0 sand 1 gas 0 goods 0;".repeat(4) + "plan 3 22 rises;");
        Check.due("first(0, 0) of the last that can be", last.first(0, 0), 322);
        // A lower shop in a later hour is ahead of a higher shop in an earlier one.
        last.plan(2, 22, 1);
        last.plan(3, 5, 1);
        Check.due("first(0, 0) by shop", last.first(0, 0), 222);
        Check.of("P41", "NONE: there is none");
        Check.due("first(0, 0)", x.first(0, 0), -1);
        Check.due("first(3, 2): from the ground", x.first(3, 2), -1);
        Check.of("P41", "-2 likewise");
        refusedBeyond("first(x, 2)", n -> x.first(n, 2), 0, 3);
        refusedBeyond("first(1, y)", n -> x.first(1, n), 0, 2);
    }

    private static void suspects() {
        Check.of("P42", "SHOPS, as bits, of which there are such");
        BalloonGrocers x = Check.told(TEXT);
        Check.due("suspects(1, 2)", x.suspects(1, 2), 1);
        Check.due("suspects(3, 1)", x.suspects(3, 1), 2);
        Check.due("suspects(3, 2): from the ground", x.suspects(3, 2), 0);
        BalloonGrocers all = Check.told("valley wide 2 deep 2 layers 2 hours 2 cools 0;" + "shop at 1 1 1 sand 0 gas 0 goods 0;".repeat(4));
        Check.due("suspects(1, 1) of four", all.suspects(1, 1), 15);
        Check.due("suspects(0, 1) of four", all.suspects(0, 1), 0);
        Check.of("P42", "-2 likewise");
        refusedBeyond("suspects(x, 0)", n -> x.suspects(n, 0), 0, 3);
        refusedBeyond("suspects(0, y)", n -> x.suspects(0, n), 0, 2);
    }

    private static void drift() {
        Check.of("P43", "100 times x and y where something is that hangs in a LAYER from a column on in HOURS from one on, n of them (0 .. 24, at most to the last)");
        BalloonGrocers x = Check.told("valley wide 8 deep 8 layers 3 hours 5 cools 1;wind 1 from 0 east;wind 1 from 3 south;wind 2 from 4 west;");
        int[] due = {2, 102, 202, 302, 303, 304, 304};
        for (int n = 0; n < due.length; n++) {
            Check.due("drift(0, 2, 1, 0, " + n + ")", x.drift(0, 2, 1, 0, n), due[n]);
        }
        Check.due("drift of 24 hours", x.drift(0, 2, 1, 0, 24), 304);
        Check.due("drift from the last hour on", x.drift(5, 5, 2, 4, 24), 405);
        Check.due("drift of the last hour", x.drift(5, 5, 2, 4, 1), 405);
        Check.due("drift of no hour", x.drift(5, 5, 2, 4, 0), 505);
        Check.due("drift on the ground", x.drift(5, 5, 0, 0, 24), 505);
        Check.due("drift against the valley's end", x.drift(7, 7, 1, 0, 24), 707);
        Check.of("P43", "-2: there are none such");
        refusedBeyond("drift(x, 0, 0, 0, 0)", n -> x.drift(n, 0, 0, 0, 0), 0, 7);
        refusedBeyond("drift(0, y, 0, 0, 0)", n -> x.drift(0, n, 0, 0, 0), 0, 7);
        refusedBeyond("drift(0, 0, layer, 0, 0)", n -> x.drift(0, 0, n, 0, 0), 0, 2);
        refusedBeyond("drift(0, 0, 0, hour, 0)", n -> x.drift(0, 0, 0, n, 0), 0, 4);
        refusedBeyond("drift(0, 0, 0, 0, n)", n -> x.drift(0, 0, 0, 0, n), 0, 24);
    }

    private static void whence() {
        Check.of("P44", "The column (100 times x and y) from which it drifts to one so, the least");
        BalloonGrocers x = Check.told("valley wide 4 deep 3 layers 3 hours 3 cools 0;wind 1 from 0 east;wind 2 from 0 north;wind 2 from 1 west;");
        Check.due("whence of no hour", x.whence(3, 2, 1, 0, 0), 302);
        Check.due("whence(2, 2) of one", x.whence(2, 2, 1, 0, 1), 102);
        Check.due("whence at the end of one: of 2 and 3", x.whence(3, 2, 1, 0, 1), 202);
        Check.due("whence at the end of 24: of all", x.whence(3, 2, 1, 0, 24), 2);
        // In layer 2 north, then west: at 0 0 are those of 0 0, 0 1, 1 0 and 1 1.
        Check.due("whence(0, 0)", x.whence(0, 0, 2, 0, 2), 0);
        Check.due("whence(2, 1)", x.whence(2, 1, 2, 0, 2), 302);
        Check.due("whence(1, 0): of 2 0 and 2 1", x.whence(1, 0, 2, 0, 2), 200);
        Check.of("P44", "NONE: from none");
        Check.due("whence(0, 0) where all is blown off", x.whence(0, 0, 1, 0, 1), -1);
        Check.due("whence(2, 2): three hours", x.whence(2, 2, 1, 0, 3), -1);
        // Nothing comes from beyond the valley's end.
        Check.due("whence(3, 1) where the wind is west", x.whence(3, 1, 2, 1, 1), -1);
        Check.due("whence(1, 2) where the wind is north", x.whence(1, 2, 2, 0, 1), -1);
        Check.of("P44", "-2 likewise");
        refusedBeyond("whence(x, 0, 0, 0, 0)", n -> x.whence(n, 0, 0, 0, 0), 0, 3);
        refusedBeyond("whence(0, y, 0, 0, 0)", n -> x.whence(0, n, 0, 0, 0), 0, 2);
        refusedBeyond("whence(0, 0, layer, 0, 0)", n -> x.whence(0, 0, n, 0, 0), 0, 2);
        refusedBeyond("whence(0, 0, 0, hour, 0)", n -> x.whence(0, 0, 0, n, 0), 0, 2);
        refusedBeyond("whence(0, 0, 0, 0, n)", n -> x.whence(0, 0, 0, 0, n), 0, 24);
    }

    private static int smokeOf(BalloonGrocers x, long... numbers) {
        Check.put(x, 0, 3, numbers);
        return x.smoke(0);
    }

    private static int kitesOf(BalloonGrocers x, long... numbers) {
        Check.put(x, 0, 3, numbers);
        return x.kites(0);
    }

    private static void smoke() {
        Check.of("P45", "five numbers each: an HOUR, x, y, then x, y where it was behind that HOUR: LAYERS by whose WIND all is so, as bits");
        BalloonGrocers x = Check.told("valley wide 4 deep 3 layers 5 hours 4 cools 0;wind 1 from 0 east;wind 2 from 0 south;wind 3 from 0 west;wind 4 from 0 north;wind 4 from 3 east;");
        Check.due("smoke of no numbers", smokeOf(x), 31);
        Check.due("smoke that stays", smokeOf(x, 0, 1, 1, 1, 1), 1);
        Check.due("smoke east", smokeOf(x, 0, 1, 1, 2, 1), 2);
        Check.due("smoke south", smokeOf(x, 0, 1, 1, 1, 2), 4);
        Check.due("smoke west", smokeOf(x, 0, 1, 1, 0, 1), 8);
        Check.due("smoke north", smokeOf(x, 0, 1, 1, 1, 0), 16);
        Check.due("smoke in the corner 0 0", smokeOf(x, 0, 0, 0, 0, 0), 25);
        Check.due("smoke in the corner 3 2", smokeOf(x, 3, 3, 2, 3, 2), 23);
        Check.due("smoke of two hours", smokeOf(x, 3, 3, 2, 3, 2, 2, 3, 2, 3, 1), 16);
        Check.due("smoke by two", smokeOf(x, 0, 1, 1, 3, 1), 0);
        long[] full = new long[60];
        Check.due("smoke of sixty numbers", smokeOf(x, full), 25);
        full[57] = 1;
        full[58] = 1;
        Check.due("smoke of sixty numbers, the last not so", smokeOf(x, full), 0);
    }

    private static void smokeRefused() {
        BalloonGrocers x = Check.told(TEXT);
        Check.put(x, 0, 3);
        Check.put(x, 3, 3, 0, 0, 0, 0, 0);
        Check.of("P45", "-2: there is no such SLOT");
        Check.bounds("smoke(slot)", n -> n == 1 || n == 2 ? -6 : x.smoke(n), 0, 3, -2);
        Check.of("P45", "a number is no HOUR, no x, no y (asked last)");
        int[] most = {3, 3, 2, 3, 2};
        for (int i = 0; i < 5; i++) {
            int at = i;
            refusedBeyond("smoke of number " + i, n -> {
                long[] numbers = new long[10];
                numbers[5 + at] = n;
                return smokeOf(x, numbers);
            }, 0, most[i]);
        }
        long[] far = {1L << 32, 1L << 63, Long.MAX_VALUE, -1L, (1L << 32) + 1};
        for (long n : far) {
            Check.due("smoke of hour " + n, smokeOf(x, n, 0, 0, 0, 0), -2);
            Check.due("smoke of y " + n, smokeOf(x, 0, 0, 0, 0, n), -2);
        }
        Check.of("P45", "not five each");
        for (int n = 1; n <= 11; n++) {
            Check.due("smoke of " + n + " numbers", smokeOf(x, new long[n]) == -2 ? 1 : 0, n % 5 == 0 ? 0 : 1);
        }
        Check.due("smoke of six numbers of which one is none", smokeOf(x, 9, 9, 9, 9, 9, 9), -2);
        Check.of("P45", "-6: it has nothing");
        Check.due("smoke(1)", x.smoke(1), -6);
        Check.of("P45", "no VALLEY");
        BalloonGrocers none = new BalloonGrocers();
        Check.due("smoke of nothing", none.smoke(0), -2);
        Check.put(none, 0, 0, 0, 0, 0, 0, 0);
        Check.due("smoke of a row", none.smoke(0), -2);
        Check.put(none, 0, 0);
        Check.due("smoke of a row of no numbers", none.smoke(0), -2);
    }

    private static void kites() {
        Check.of("P46", "two numbers each: an HOUR, a WIND: LAYERS of which all is so, as bits");
        BalloonGrocers x = Check.told("valley wide 4 deep 3 layers 5 hours 24 cools 0;wind 1 from 0 east;wind 2 from 0 south;wind 3 from 0 west;wind 4 from 0 north;wind 4 from 23 east;");
        Check.due("kites of no numbers", kitesOf(x), 31);
        int[] due = {1, 16, 2, 4, 8};
        for (int wind = 0; wind < 5; wind++) {
            Check.due("kites of wind " + wind, kitesOf(x, 0, wind), due[wind]);
        }
        Check.due("kites of the last hour", kitesOf(x, 23, 2), 18);
        Check.due("kites of two hours", kitesOf(x, 23, 2, 22, 1), 16);
        Check.due("kites of one hour twice", kitesOf(x, 0, 2, 0, 2), 2);
        Check.due("kites of one hour with two winds", kitesOf(x, 0, 2, 0, 3), 0);
        long[] full = new long[60];
        Check.due("kites of sixty numbers", kitesOf(x, full), 1);
        full[59] = 1;
        Check.due("kites of sixty numbers, the last not so", kitesOf(x, full), 0);
    }

    private static void kitesRefused() {
        BalloonGrocers x = Check.told(TEXT);
        Check.put(x, 0, 3);
        Check.put(x, 3, 3, 0, 0);
        Check.of("P46", "-2: there is no such SLOT");
        Check.bounds("kites(slot)", n -> n == 1 || n == 2 ? -6 : x.kites(n), 0, 3, -2);
        Check.of("P46", "a number is no HOUR, no WIND (asked last)");
        refusedBeyond("kites of an hour", n -> kitesOf(x, 0, 0, n, 0), 0, 3);
        refusedBeyond("kites of a wind", n -> kitesOf(x, 0, 0, 0, n), 0, 4);
        long[] far = {1L << 32, 1L << 63, Long.MAX_VALUE, -1L, (1L << 32) + 1};
        for (long n : far) {
            Check.due("kites of hour " + n, kitesOf(x, n, 0), -2);
            Check.due("kites of wind " + n, kitesOf(x, 0, n), -2);
        }
        Check.of("P46", "not two each");
        for (int n = 1; n <= 11; n++) {
            Check.due("kites of " + n + " numbers", kitesOf(x, new long[n]) == -2 ? 1 : 0, n % 2);
        }
        Check.due("kites of three numbers of which one is none", kitesOf(x, 9, 9, 9), -2);
        Check.of("P46", "-6: it has nothing");
        Check.due("kites(1)", x.kites(1), -6);
        Check.of("P46", "no VALLEY");
        BalloonGrocers none = new BalloonGrocers();
        Check.due("kites of nothing", none.kites(0), -2);
        Check.put(none, 0, 0, 0, 0);
        Check.due("kites of a row", none.kites(0), -2);
        Check.put(none, 0, 0);
        Check.due("kites of a row of no numbers", none.kites(0), -2);
    }

    private static void known() {
        Check.of("P47", "from HOUR 0 on one by one, so that it is known among all LAYERS (at least): 0 .. all");
        BalloonGrocers x = Check.told("valley wide 2 deep 2 layers 4 hours 5 cools 0;wind 1 from 0 east;wind 2 from 4 north;wind 3 from 4 south;");
        Check.due("known(1): by hour 0", x.known(1), 1);
        Check.due("known(2): by all", x.known(2), 5);
        Check.due("known(3): by all", x.known(3), 5);
        Check.due("known(0): by all", x.known(0), 5);
        x.turn(2, 2, 1);
        Check.due("known(2): by three", x.known(2), 3);
        BalloonGrocers two = Check.told("valley wide 2 deep 2 layers 2 hours 1 cools 0;wind 1 from 0 east;");
        Check.due("known(0) of one hour", two.known(0), 1);
        Check.due("known(1) of one hour", two.known(1), 1);
        Check.of("P47", "NONE: another one is as it is in all");
        two.turn(1, 0, 0);
        Check.due("known(0)", two.known(0), -1);
        Check.due("known(1)", two.known(1), -1);
        x.turn(2, 2, 0);
        x.turn(2, 4, 3);
        Check.due("known(2): as layer 3", x.known(2), -1);
        Check.due("known(3): as layer 2", x.known(3), -1);
        Check.due("known(0)", x.known(0), 5);
        Check.of("P47", "-2: there is no such LAYER");
        refusedBeyond("known(layer)", x::known, 0, 3);
        refusedBeyond("known(layer) of two", two::known, 0, 1);
    }

    private static void price() {
        Check.of("P48", "What a SALE brings in a LAYER");
        BalloonGrocers x = Check.told("valley wide 2 deep 2 layers 5 hours 1 cools 0;sells within 3 price 2;");
        int[] due = {2, 1, 0, 0, -1};
        for (int layer = 0; layer < 4; layer++) {
            Check.due("price(" + layer + ")", x.price(layer), due[layer]);
        }
        Check.due("price(0) of 99", Check.told("valley wide 2 deep 2 layers 5 hours 1 cools 0;sells within 3 price 99;").price(0), 99);
        Check.due("price(0) without sells", Check.told("valley wide 2 deep 2 layers 5 hours 1 cools 0;").price(0), 9);
        Check.of("P48", "NONE: it is above reach");
        Check.due("price(4)", x.price(4), -1);
        Check.due("price(1) without sells", Check.told("valley wide 2 deep 2 layers 5 hours 1 cools 0;").price(1), -1);
        Check.due("price(4) within 4", Check.told("valley wide 2 deep 2 layers 5 hours 1 cools 0;sells within 4 price 9;").price(4), 5);
        Check.of("P48", "-2: there is no such LAYER");
        refusedBeyond("price(layer)", x::price, 0, 4);
    }
}
