import java.util.function.IntToLongFunction;

/** The boundary cases of slots and images, promises 57 to 62, sentence by sentence. */
public final class EdgeSlotTest {
    /** Layers 1 to 4 have the winds 1 to 4 in hour 0; in hours 1 to 4 all are still. */
    private static final String WINDS = "valley wide 2 deep 2 layers 5 hours 5 cools 0;wind 1 from 0 north;wind 2 from 0 east;wind 3 from 0 south;wind 4 from 0 west;"
        + "wind 1 from 1 still;wind 2 from 1 still;wind 3 from 1 still;wind 4 from 1 still;";
    private static final String TEXT = "valley wide 4 deep 3 layers 3 hours 6 cools 5;sells within 2 price 7;wind 1 from 0 east;"
        + "shop at 0 0 0 sand 2 gas 1 goods 2;door at 1 0 wants 1;fair at 0 0 from 0 to 5;plan 0 0 rises;";

    public static void main(String[] args) {
        slots();
        count();
        countNone();
        keep();
        back();
        row();
        rowRefused();
        write();
        writeRefused();
        paste();
        pasteRefused();
        Check.finish("EdgeSlotTest");
    }

    private static void refusedBeyond(String call, IntToLongFunction ask, int least, int most) {
        Check.bounds(call, ask, least, most, -2);
    }

    /** Number i of a slot's row, if it is a wind: 0 to 4; 9 if not. Slot 3 is used for it. */
    private static int numberAt(BalloonGrocers x, int slot, int width, int i) {
        x.row(3, width, 2);
        Check.due("paste to look at it", x.paste(slot, i, 3, 1, 1), 0);
        int bits = x.kites(3);
        return bits < 0 ? 9 : bits == 1 ? 0 : Integer.numberOfTrailingZeros(bits);
    }

    private static void rowIs(BalloonGrocers x, int slot, int width, int... due) {
        for (int i = 0; i < due.length; i++) {
            Check.due("number " + i + " of slot " + slot, numberAt(x, slot, width, i), due[i]);
        }
    }

    private static void slots() {
        Check.of("T1", "SLOTS 0 .. 3 have rows of numbers of 1, 2, 4 or 8 bytes (WIDTH 0 .. 3), at most 60, or nothing");
        BalloonGrocers x = Check.told(WINDS);
        for (int slot = 0; slot < 4; slot++) {
            Check.due("kites(" + slot + ") of nothing", x.kites(slot), -6);
        }
        long[] cuts = {1L << 8, 1L << 16, 1L << 32};
        for (int width = 0; width < 4; width++) {
            Check.put(x, width, width, 0, 3);
            for (int i = 0; i < 3; i++) {
                x.write(width, 1, cuts[i] + 3);
                Check.due("3 and " + cuts[i] + " in width " + width, x.kites(width), i >= width ? 8 : -2);
            }
        }
        Check.due("count(12)", x.count(12), 4);
        Check.due("row of 60", x.row(0, 3, 60), 0);
        Check.due("row of 61", x.row(0, 3, 61), -2);
    }

    private static void count() {
        Check.of("P57", "0 wide, 1 deep, 2 LAYERS, 3 HOURS, 4 cools, 5 reach, 6 price, 7 SHOPS, 8 DOORS, 9 LINES, 10 bytes of the TAPE, 11 changes that are not taken back, 12 SLOTS that have a row");
        BalloonGrocers x = Check.told(TEXT);
        x.plan(0, 1, 1);
        x.plan(0, 1, 2);
        x.undo();
        x.row(2, 0, 0);
        Check.tell(x, "valley");
        int[] due = {4, 3, 3, 6, 5, 2, 7, 1, 1, 7, 6, 1, 1};
        for (int what = 0; what <= 12; what++) {
            Check.due("count(" + what + ")", x.count(what), due[what]);
            Check.due("count(" + what + ") of a new object", new BalloonGrocers().count(what), 0);
        }
    }

    private static void countNone() {
        Check.of("P57", "NONE for others");
        Check.bounds("count(what)", Check.told(TEXT)::count, 0, 12, -1);
        Check.bounds("count(what) of a new object", new BalloonGrocers()::count, 0, 12, -1);
    }

    private static void keep() {
        Check.of("P58", "IMAGE k (0 .. 2) keeps the VALLEY, the PLAN and its changes: 0");
        BalloonGrocers x = Check.told(TEXT);
        x.plan(0, 3, 2);
        x.load(0, 3, 7);
        x.turn(2, 1, 3);
        String before = Check.stateOf(x);
        for (int k = 0; k < 3; k++) {
            Check.due("keep(" + k + ")", x.keep(k), 0);
        }
        Check.same("all of it", Check.stateOf(x), before);
        x.undo();
        x.plan(0, 0, 0);
        x.load(0, 3, 1);
        x.turn(2, 1, 1);
        Check.due("keep(1) again, in place of it", x.keep(1), 0);
        String then = Check.stateOf(x);
        x.valley();
        String[] due = {before, then, before};
        for (int k = 2; k >= 0; k--) {
            Check.due("back(" + k + ")", x.back(k), 0);
            Check.same("all of image " + k, Check.stateOf(x), due[k]);
        }
        BalloonGrocers none = new BalloonGrocers();
        Check.due("keep(2) without a valley", none.keep(2), 0);
        Check.tell(none, TEXT);
        none.valley();
        Check.due("back(2)", none.back(2), 0);
        Check.same("no valley", Check.stateOf(none), Check.stateOf(new BalloonGrocers()));
        BalloonGrocers fair = Check.told("valley wide 2 deep 2 layers 2 hours 9 cools 0;shop at 1 1 0 sand 0 gas 0 goods 0;fair at 1 1 from 5 to 7;");
        fair.keep(0);
        Check.tell(fair, "valley wide 2 deep 2 layers 2 hours 9 cools 0;shop at 1 1 0 sand 0 gas 0 goods 0;fair at 1 1 from 1 to 8;");
        fair.valley();
        Check.due("fair(0)", fair.fair(0), 8);
        fair.back(0);
        Check.due("fair(0) of the image", fair.fair(0), 3);
        Check.of("P58", "-2: no such k");
        refusedBeyond("keep(k)", x::keep, 0, 2);
        Check.refused("keep(3)", x, () -> x.keep(3), -2);
    }

    private static void back() {
        Check.of("P59", "These are as IMAGE k has them: 0");
        BalloonGrocers x = Check.told(TEXT);
        x.plan(0, 0, 0);
        x.keep(0);
        Check.due("least(0, 1, 0, 1)", x.least(0, 1, 0, 1), 1);
        x.turn(1, 0, 0);
        Check.due("undo()", x.undo(), 0);
        Check.tell(x, WINDS);
        x.valley();
        Check.tell(x, "valley wide 9");
        x.valley();
        x.row(1, 0, 2);
        Check.tell(x, "valley");
        Check.due("back(0)", x.back(0), 0);
        Check.due("the tape stays", x.count(10), 6);
        Check.due("the slots stay", x.count(12), 1);
        Check.due("the fault stays", x.fault(1), 12);
        x.end(0);
        BalloonGrocers y = Check.told(TEXT);
        y.plan(0, 0, 0);
        y.row(1, 0, 2);
        Check.same("all of it", Check.stateOf(x), Check.stateOf(y));
        Check.due("least(0, 1, 0, 1)", x.least(0, 1, 0, 1), 1);
        Check.due("soonest(0, 1, 0, 1)", x.soonest(0, 1, 0, 1), 0);
        Check.due("undo()", x.undo(), 0);
        Check.due("act(0, 0)", x.act(0, 0), 1);
        Check.due("back(0) once more: undo() was not kept", x.back(0), 0);
        Check.due("count(11)", x.count(11), 1);
        Check.of("P59", "-2: no such k");
        x.keep(1);
        x.keep(2);
        refusedBeyond("back(k)", x::back, 0, 2);
        Check.refused("back(3)", x, () -> x.back(3), -2);
        Check.of("P59", "-6: it has nothing");
        BalloonGrocers z = Check.told(TEXT);
        z.keep(1);
        Check.refused("back(0)", z, () -> z.back(0), -6);
        Check.refused("back(2)", z, () -> z.back(2), -6);
        Check.due("back(1)", z.back(1), 0);
        for (int k = 0; k < 3; k++) {
            Check.due("back(" + k + ") of a new object", new BalloonGrocers().back(k), -6);
        }
    }

    private static void row() {
        Check.of("P60", "A SLOT (0 .. 3) has a row of n numbers of a WIDTH, all 0 (in place of another one): 0");
        BalloonGrocers x = Check.told(WINDS);
        Check.due("row(0, 0, 0)", x.row(0, 0, 0), 0);
        Check.due("count(12): no numbers are a row", x.count(12), 1);
        Check.due("kites(0) of no numbers", x.kites(0), 31);
        Check.due("row(0, 0, 60)", x.row(0, 0, 60), 0);
        for (int i = 0; i < 60; i++) {
            Check.due("write", x.write(0, i, 4), 0);
        }
        Check.due("row(0, 2, 5) in place of it", x.row(0, 2, 5), 0);
        rowIs(x, 0, 2, 0, 0, 0, 0, 0);
        Check.due("row(0, 2, 60)", x.row(0, 2, 60), 0);
        rowIs(x, 0, 2, new int[60]);
        Check.due("count(12)", x.count(12), 2);
    }

    private static void rowRefused() {
        BalloonGrocers x = Check.told(WINDS);
        Check.put(x, 0, 1, 0, 2, 0, 2);
        Check.of("P60", "-2: there is no such SLOT or WIDTH (0 .. 3), or n is above 60");
        Check.refused("row(4, 0, 1)", x, () -> x.row(4, 0, 1), -2);
        Check.refused("row(0, 4, 1)", x, () -> x.row(0, 4, 1), -2);
        Check.refused("row(0, -1, 1)", x, () -> x.row(0, -1, 1), -2);
        Check.refused("row(0, 0, 61)", x, () -> x.row(0, 0, 61), -2);
        Check.of("P60", "-3, and the SLOT stays: n is below 0");
        Check.refused("row(0, 0, -1)", x, () -> x.row(0, 0, -1), -3);
        Check.refused("row(0, 3, -2147483648)", x, () -> x.row(0, 3, Integer.MIN_VALUE), -3);
        Check.refused("row(1, 3, -1) of nothing", x, () -> x.row(1, 3, -1), -3);
        rowIs(x, 0, 1, 0, 2, 0, 2);
        Check.due("row(4, 0, -1): the slot is asked first", x.row(4, 0, -1), -2);
        Check.due("row(0, 4, -1): the width is asked first", x.row(0, 4, -1), -2);
        Check.of("P60", "-2: there is no such SLOT or WIDTH (0 .. 3), or n is above 60");
        refusedBeyond("row(slot, 0, 1)", n -> x.row(n, 0, 1), 0, 3);
        refusedBeyond("row(0, width, 1)", n -> x.row(0, n, 1), 0, 3);
        int[] above = {61, 62, 256, 65536, Integer.MAX_VALUE};
        for (int n : above) {
            Check.due("row(0, 0, " + n + ")", x.row(0, 0, n), -2);
        }
    }

    private static void write() {
        Check.of("P61", "Number i of the SLOT's row is v, cut to its WIDTH: 0");
        BalloonGrocers x = Check.told(WINDS);
        long[][] cut = {{256 + 3, -256 + 2, Long.MIN_VALUE + 1, 4}, {65536 + 3, -65536 + 2, Long.MIN_VALUE + 1, 4},
            {(1L << 32) + 3, -(1L << 32) + 2, Long.MIN_VALUE + 1, 4}, {3, 2, 1, 4}};
        for (int width = 0; width < 4; width++) {
            Check.put(x, 0, width, cut[width]);
            rowIs(x, 0, width, 3, 2, 1, 4);
        }
        long[][] whole = {{5, -1, 128, 255}, {256, 257, -1, 65535}, {65536, 65537, 256, -1}, {1L << 32, (1L << 32) + 1, Long.MIN_VALUE, -1}};
        for (int width = 0; width < 4; width++) {
            Check.put(x, 0, width, whole[width]);
            rowIs(x, 0, width, 9, 9, 9, 9);
        }
        x.row(0, 0, 60);
        Check.due("write to the first", x.write(0, 0, 1), 0);
        Check.due("write to the last", x.write(0, 59, 2), 0);
        rowIs(x, 0, 0, 1, 0);
        Check.due("number 58", numberAt(x, 0, 0, 58), 0);
        Check.due("number 59", numberAt(x, 0, 0, 59), 2);
    }

    private static void writeRefused() {
        BalloonGrocers x = Check.told(WINDS);
        Check.put(x, 0, 1, 0, 2);
        Check.put(x, 3, 1, 0, 2);
        Check.of("P61", "-2: there is no such SLOT");
        refusedBeyond("write(slot, 0, 0)", n -> x.write(n, 0, 0), 0, 3);
        Check.refused("write(4, 0, 1)", x, () -> x.write(4, 0, 1), -2);
        Check.refused("write(-1, 9, 1)", x, () -> x.write(-1, 9, 1), -2);
        Check.of("P61", "-6: it has nothing");
        Check.refused("write(1, 0, 1)", x, () -> x.write(1, 0, 1), -6);
        Check.refused("write(1, -1, 1)", x, () -> x.write(1, -1, 1), -6);
        Check.of("P61", "-7: there is no such number");
        Check.bounds("write(0, i, 2)", n -> x.write(0, n, n == 0 ? 0 : 2), 0, 1, -7);
        Check.refused("write(0, 2, 1)", x, () -> x.write(0, 2, 1), -7);
        Check.refused("write(0, -1, 1)", x, () -> x.write(0, -1, 1), -7);
        x.row(1, 0, 0);
        Check.due("write(1, 0, 1) to a row of no numbers", x.write(1, 0, 1), -7);
        x.row(1, 0, 60);
        Check.bounds("write(1, i, 2)", n -> x.write(1, n, 2), 0, 59, -7);
    }

    private static void paste() {
        Check.of("P62", "So many numbers of a SLOT's row, from one on, are put to another one's (or its own), from one on, as they were: 0");
        BalloonGrocers x = Check.told(WINDS);
        for (int width = 0; width < 4; width++) {
            Check.put(x, 0, width, 1, 2, 3, 4, 0);
            Check.put(x, 1, width, 4, 4, 4);
            Check.due("paste of none", x.paste(0, 0, 1, 0, 0), 0);
            rowIs(x, 1, width, 4, 4, 4);
            Check.due("paste to the end of both", x.paste(0, 3, 1, 1, 2), 0);
            rowIs(x, 1, width, 4, 4, 0);
            Check.due("paste of all", x.paste(1, 0, 0, 0, 3), 0);
            rowIs(x, 0, width, 4, 4, 0, 4, 0);
            rowIs(x, 1, width, 4, 4, 0);
            Check.put(x, 0, width, 1, 2, 3, 4, 0);
            Check.due("paste up its own row", x.paste(0, 0, 0, 1, 4), 0);
            rowIs(x, 0, width, 1, 1, 2, 3, 4);
            Check.due("paste down its own row", x.paste(0, 1, 0, 0, 4), 0);
            rowIs(x, 0, width, 1, 2, 3, 4, 4);
            Check.due("paste of its own row to where it is", x.paste(0, 0, 0, 0, 5), 0);
            rowIs(x, 0, width, 1, 2, 3, 4, 4);
        }
        Check.put(x, 0, 3, Long.MIN_VALUE, Long.MAX_VALUE);
        Check.put(x, 1, 3, 0, 0);
        x.paste(0, 0, 1, 0, 2);
        rowIs(x, 1, 3, 9, 9);
        x.row(0, 0, 60);
        x.row(1, 0, 60);
        x.write(0, 59, 3);
        Check.due("paste of sixty", x.paste(0, 0, 1, 0, 60), 0);
        Check.due("number 59", numberAt(x, 1, 0, 59), 3);
    }

    private static void pasteRefused() {
        BalloonGrocers x = Check.told(WINDS);
        Check.put(x, 0, 1, 0, 2, 0, 2);
        Check.put(x, 1, 1, 0, 3);
        Check.put(x, 2, 2, 0, 4);
        Check.of("P62", "-2: there is no such SLOT");
        refusedBeyond("paste(slot, 0, 1, 0, 0)", n -> x.paste(n, 0, 1, 0, 0), 0, 3);
        refusedBeyond("paste(0, 0, to, 0, 0)", n -> x.paste(0, 0, n, 0, 0), 0, 3);
        Check.due("paste(4, 0, 3, 0, 0): asked ahead of -6", x.paste(4, 0, 3, 0, 0), -2);
        Check.due("paste(3, 0, 4, 0, 0): asked ahead of -6", x.paste(3, 0, 4, 0, 0), -2);
        Check.of("P62", "-6: one has nothing");
        Check.refused("paste(3, 0, 0, 0, 1)", x, () -> x.paste(3, 0, 0, 0, 1), -6);
        Check.refused("paste(0, 0, 3, 0, 1)", x, () -> x.paste(0, 0, 3, 0, 1), -6);
        Check.refused("paste(3, 0, 3, 0, 0)", x, () -> x.paste(3, 0, 3, 0, 0), -6);
        Check.refused("paste(3, -1, 0, 0, 1): asked ahead of -7", x, () -> x.paste(3, -1, 0, 0, 1), -6);
        Check.of("P62", "-8: they are not of one WIDTH");
        Check.refused("paste(0, 0, 2, 0, 1)", x, () -> x.paste(0, 0, 2, 0, 1), -8);
        Check.refused("paste(2, 0, 0, 0, 0)", x, () -> x.paste(2, 0, 0, 0, 0), -8);
        Check.refused("paste(2, 9, 0, 0, 1): asked ahead of -7", x, () -> x.paste(2, 9, 0, 0, 1), -8);
        for (int width = 0; width < 4; width++) {
            x.row(3, width, 4);
            Check.due("paste of width 1 to width " + width, x.paste(0, 0, 3, 0, 1), width == 1 ? 0 : -8);
        }
        Check.of("P62", "-7, and nothing happens: some are beyond their rows, or a place or n is below 0");
        int far = Integer.MAX_VALUE;
        int[][] beyond = {{0, 0, 3}, {3, 0, 2}, {4, 0, 1}, {0, 1, 2}, {0, 2, 1}, {-1, 0, 1}, {0, -1, 1}, {0, 0, -1}, {-1, 0, 0}, {0, -1, 0},
            {far, 0, 1}, {0, far, 1}, {0, 0, far}, {1, 1, far}, {far, far, far}, {Integer.MIN_VALUE, 0, 1}, {0, Integer.MIN_VALUE, 1}, {0, 0, Integer.MIN_VALUE},
            {2, 0, far - 1}, {far, 0, far}, {5, 0, 0}, {0, 3, 0}};
        for (int[] b : beyond) {
            Check.refused("paste(0, " + b[0] + ", 1, " + b[1] + ", " + b[2] + ")", x, () -> x.paste(0, b[0], 1, b[1], b[2]), -7);
        }
        Check.refused("paste(0, 1, 0, 2, 3) to its own", x, () -> x.paste(0, 1, 0, 2, 3), -7);
        rowIs(x, 1, 1, 0, 3);
        rowIs(x, 0, 1, 0, 2, 0, 2);
        Check.due("paste of none at the ends", x.paste(0, 4, 1, 2, 0), 0);
    }
}
