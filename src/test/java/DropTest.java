/** Promises 39 to 48: drops, drifts, smoke, kites, layers known by their winds, prices. */
public final class DropTest {
    /** Layer 1: east, then west from hour 3; layer 2: south. Shop 0 hangs in layer 2, shop 1 in layer 1, shop 2 stands. */
    private static final String TEXT = "valley wide 4 deep 3 layers 3 hours 5 cools 0;"
        + "sells within 1 price 1;"
        + "wind 1 from 0 east;wind 1 from 3 west;wind 2 from 0 south;"
        + "shop at 0 0 2 sand 0 gas 0 goods 0;"
        + "shop at 1 1 1 sand 0 gas 0 goods 0;"
        + "shop at 2 2 0 sand 0 gas 0 goods 0;";

    public static void main(String[] args) {
        drops();
        drifts();
        smoke();
        kites();
        known();
        prices();
        wrongAsked();
        Check.finish("DropTest");
    }

    /**
     * Shop 0 is at 0 1, then at 0 2 to the end. What falls behind hour 0 is carried south to 0 2, then east
     * to 1 2; behind hour 1: stays at 0 2, then west in vain; behind hour 2 likewise; later the hours are over.
     * Shop 1 is at 2 1, 3 1, 3 1, 2 1, 1 1: what falls goes to 3 1, 3 1, 2 1, 1 1; behind hour 4 they are over.
     */
    private static void drops() {
        BalloonGrocers x = Check.told(8, TEXT);
        int[][] due = {{102, 2, 2, -1, -1}, {301, 301, 201, 101, -1}, {202, 202, 202, 202, 202}};
        for (int s = 0; s < 3; s++) {
            for (int h = 0; h < 5; h++) {
                Check.due("lands(" + s + ", " + h + ")", x.lands(s, h), due[s][h]);
            }
        }
        Check.due("who(0, 2)", x.who(0, 2), 2);
        Check.due("first(0, 2)", x.first(0, 2), 1);
        Check.due("suspects(0, 2)", x.suspects(0, 2), 1);
        Check.due("who(3, 1)", x.who(3, 1), 2);
        Check.due("first(3, 1)", x.first(3, 1), 100);
        Check.due("suspects(3, 1)", x.suspects(3, 1), 2);
        Check.due("who from the ground", x.who(2, 2), 0);
        Check.due("first from the ground", x.first(2, 2), -1);
        Check.due("suspects from the ground", x.suspects(2, 2), 0);
        x.turn(1, 2, 1);
        // Now shop 0's drop of hour 0 lies at 0 1, shop 1 is at 3 0 behind hour 2, then at 2 0, 1 0.
        Check.due("lands(0, 0) by another wind", x.lands(0, 0), 1);
        Check.due("lands(1, 1) by another wind", x.lands(1, 1), 300);
        Check.due("suspects(0, 1)", x.suspects(0, 1), 1);
    }

    private static void drifts() {
        BalloonGrocers x = Check.told(8, TEXT);
        Check.due("drift of no hours", x.drift(0, 0, 1, 0, 0), 0);
        Check.due("drift of two", x.drift(0, 0, 1, 0, 2), 200);
        Check.due("drift of three", x.drift(0, 0, 1, 0, 3), 300);
        Check.due("drift of four", x.drift(0, 0, 1, 0, 4), 200);
        Check.due("drift to the last", x.drift(0, 0, 1, 0, 24), 100);
        Check.due("drift from hour 4", x.drift(0, 0, 1, 4, 24), 0);
        Check.due("drift on the ground", x.drift(3, 2, 0, 0, 24), 302);
        Check.due("drift south", x.drift(1, 0, 2, 1, 1), 101);
        Check.due("whence of none", x.whence(3, 2, 1, 0, 0), 302);
        Check.due("whence at the edge, the least", x.whence(3, 2, 1, 0, 3), 2);
        Check.due("whence, the least", x.whence(1, 0, 1, 4, 1), 200);
        Check.due("whence from none", x.whence(0, 0, 1, 0, 1), -1);
        Check.due("whence south", x.whence(2, 2, 2, 0, 1), 201);
        Check.due("whence on the ground", x.whence(2, 1, 0, 0, 9), 201);
    }

    private static void put(BalloonGrocers x, int slot, int... numbers) {
        Check.due("row", x.row(slot, 1, numbers.length), 0);
        for (int i = 0; i < numbers.length; i++) {
            Check.due("write", x.write(slot, i, numbers[i]), 0);
        }
    }

    private static void smoke() {
        BalloonGrocers x = Check.told(8, TEXT);
        Check.due("smoke of nothing", x.smoke(0), -6);
        put(x, 0);
        Check.due("smoke of no numbers", x.smoke(0), 7);
        put(x, 0, 0, 1, 1, 2, 1);
        Check.due("smoke east", x.smoke(0), 2);
        put(x, 0, 0, 1, 1, 1, 1);
        Check.due("smoke that stays", x.smoke(0), 1);
        put(x, 0, 0, 3, 2, 3, 2);
        Check.due("smoke in the corner", x.smoke(0), 7);
        put(x, 0, 0, 3, 2, 3, 2, 4, 3, 2, 3, 2);
        Check.due("smoke in the corner twice", x.smoke(0), 5);
        put(x, 0, 0, 0, 0, 3, 2);
        Check.due("smoke by no layer", x.smoke(0), 0);
        int[][] wrongs = {{5, 0, 0, 0, 0}, {-1, 0, 0, 0, 0}, {0, 4, 0, 0, 0}, {0, 0, 3, 0, 0}, {0, 0, 0, 4, 0},
            {0, 0, 0, 0, 3}, {0, 0, 0, 0, -1}, {0, 0, 0, 0}, {0, 0, 0, 0, 0, 0}};
        for (int[] wrong : wrongs) {
            put(x, 0, wrong);
            Check.due("smoke of what is none", x.smoke(0), -2);
        }
        Check.due("smoke of no slot", x.smoke(4), -2);
        Check.due("smoke of no slot", x.smoke(-1), -2);
        put(x, 3, 4, 3, 2, 2, 2);
        Check.due("smoke of slot 3", x.smoke(3), 2);
        x.row(3, 3, 5);
        x.write(3, 0, 1L << 32);
        Check.due("smoke of a large number", x.smoke(3), -2);
        x.row(3, 2, 5);
        x.write(3, 0, 1L << 32);
        Check.due("smoke of a number that was cut", x.smoke(3), 1);
        Check.due("valley() of nothing", x.valley(), 0);
        Check.due("smoke without a valley", x.smoke(3), -2);
        Check.due("smoke of nothing without a valley", x.smoke(1), -2);
    }

    private static void kites() {
        BalloonGrocers x = Check.told(8, TEXT);
        Check.due("kites of nothing", x.kites(2), -6);
        put(x, 2);
        Check.due("kites of no numbers", x.kites(2), 7);
        put(x, 2, 0, 2);
        Check.due("kites east", x.kites(2), 2);
        put(x, 2, 0, 2, 3, 4);
        Check.due("kites east, west", x.kites(2), 2);
        put(x, 2, 0, 2, 3, 2);
        Check.due("kites east, east", x.kites(2), 0);
        put(x, 2, 4, 0);
        Check.due("kites still", x.kites(2), 1);
        put(x, 2, 4, 3);
        Check.due("kites south", x.kites(2), 4);
        int[][] wrongs = {{5, 0}, {-1, 0}, {0, 5}, {0, -1}, {0}, {0, 0, 0}};
        for (int[] wrong : wrongs) {
            put(x, 2, wrong);
            Check.due("kites of what is none", x.kites(2), -2);
        }
        Check.due("kites of no slot", x.kites(4), -2);
        Check.due("kites of no slot", x.kites(-1), -2);
        Check.due("valley() of nothing", x.valley(), 0);
        put(x, 2, 0, 0);
        Check.due("kites without a valley", x.kites(2), -2);
    }

    private static void known() {
        BalloonGrocers x = Check.told(8, TEXT);
        Check.due("known(0)", x.known(0), 1);
        Check.due("known(1)", x.known(1), 1);
        x = Check.told(4, "valley wide 2 deep 2 layers 4 hours 5 cools 0;wind 1 from 2 east;wind 2 from 2 east;wind 2 from 4 west;");
        Check.due("known(0): layer 3 is as it is", x.known(0), -1);
        Check.due("known(3)", x.known(3), -1);
        Check.due("known(1)", x.known(1), 5);
        Check.due("known(2)", x.known(2), 5);
        x.turn(3, 0, 1);
        Check.due("known(3) by its first wind", x.known(3), 1);
        Check.due("known(0) then", x.known(0), 3);
    }

    private static void prices() {
        BalloonGrocers x = Check.told(8, TEXT);
        Check.due("price(0)", x.price(0), 1);
        Check.due("price(1)", x.price(1), 0);
        Check.due("price(2): above reach", x.price(2), -1);
        x = Check.told(2, "valley wide 2 deep 2 layers 5 hours 1 cools 0;sells within 4 price 2;");
        int[] due = {2, 1, 0, 0, 0};
        for (int layer = 0; layer < 5; layer++) {
            Check.due("price(" + layer + ")", x.price(layer), due[layer]);
        }
        x = Check.told(1, "valley wide 2 deep 2 layers 2 hours 1 cools 0;");
        Check.due("price(0) without sells", x.price(0), 9);
        Check.due("price(1) without sells", x.price(1), -1);
    }

    private static void wrongAsked() {
        int[][] wrongs = {{3, 5, 4, 3, 3, 25}, {-1, -1, -1, -1, -1, -1},
            {2147483647, 2147483647, 2147483647, 2147483647, 2147483647, 2147483647},
            {-2147483648, -2147483648, -2147483648, -2147483648, -2147483648, -2147483648}};
        for (int[] w : wrongs) {
            wrong(Check.told(8, TEXT), w);
        }
        wrong(new BalloonGrocers(), new int[6]);
    }

    /** Of each number one that is none: shop, hour, x, y, layer, how many. */
    private static void wrong(BalloonGrocers x, int[] w) {
        Check.due("lands of no shop", x.lands(w[0], 0), -2);
        Check.due("lands of no hour", x.lands(0, w[1]), -2);
        int[][] columns = {{w[2], 0}, {0, w[3]}};
        for (int[] c : columns) {
            Check.due("who of none", x.who(c[0], c[1]), -2);
            Check.due("first of none", x.first(c[0], c[1]), -2);
            Check.due("suspects of none", x.suspects(c[0], c[1]), -2);
        }
        int[][] all = {{w[2], 0, 0, 0, 0}, {0, w[3], 0, 0, 0}, {0, 0, w[4], 0, 0}, {0, 0, 0, w[1], 0}, {0, 0, 0, 0, w[5]}};
        for (int[] a : all) {
            Check.due("drift of none", x.drift(a[0], a[1], a[2], a[3], a[4]), -2);
            Check.due("whence of none", x.whence(a[0], a[1], a[2], a[3], a[4]), -2);
        }
        Check.due("known of no layer", x.known(w[4]), -2);
        Check.due("price of no layer", x.price(w[4]), -2);
    }
}
