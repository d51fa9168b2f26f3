/** Promises 57 to 62: counts, images, and slots with rows of numbers. */
public final class SlotTest {
    private static final String TEXT = "valley wide 4 deep 3 layers 3 hours 6 cools 5;sells within 2 price 7;"
        + "wind 1 from 0 east;shop at 0 0 0 sand 2 gas 1 goods 2;door at 1 0 wants 1;fair at 0 0 from 0 to 5;plan 0 0 rises;";

    public static void main(String[] args) {
        images();
        imagesOfNothing();
        rows();
        writes();
        pastes();
        Check.finish("SlotTest");
    }

    private static void images() {
        BalloonGrocers x = Check.told(7, TEXT);
        Check.due("keep(-1)", x.keep(-1), -2);
        Check.due("keep(3)", x.keep(3), -2);
        Check.due("back(-1)", x.back(-1), -2);
        Check.due("back(3)", x.back(3), -2);
        Check.due("back(2)", x.back(2), -6);
        Check.due("keep(0)", x.keep(0), 0);
        x.plan(0, 0, 0);
        x.plan(0, 1, 1);
        Check.due("keep(1)", x.keep(1), 0);
        x.undo();
        x.undo();
        x.load(0, 5, 9);
        x.turn(1, 0, 4);
        x.plan(0, 5, 2);
        Check.due("keep(2)", x.keep(2), 0);
        Check.due("valley() of nothing", x.valley(), 0);
        Check.due("back(0)", x.back(0), 0);
        int[] counts = {4, 3, 3, 6, 5, 2, 7, 1, 1, 7, 0, 0, 0};
        for (int what = 0; what < counts.length; what++) {
            Check.due("count(" + what + ") of image 0", x.count(what), counts[what]);
        }
        Check.due("money() of image 0", x.money(), 6);
        Check.due("shop(0, 5) of image 0", x.shop(0, 5), 2);
        Check.due("wind(1, 0) of image 0", x.wind(1, 0), 2);
        Check.due("fair(0) of image 0", x.fair(0), 6);
        Check.due("least of image 0", x.least(0, 1, 0, 1), 1);
        Check.due("back(1)", x.back(1), 0);
        Check.due("count(11) of image 1", x.count(11), 2);
        Check.due("changed(1, 1) of image 1", x.changed(1, 1), 1);
        Check.due("act(0, 0) of image 1", x.act(0, 0), 0);
        Check.due("undo() of image 1", x.undo(), 1);
        Check.due("undo() of image 1", x.undo(), 0);
        Check.due("act(0, 0) taken back", x.act(0, 0), 1);
        Check.due("back(1) again", x.back(1), 0);
        Check.due("count(11) again", x.count(11), 2);
        Check.due("back(2)", x.back(2), 0);
        Check.due("shop(0, 5) of image 2", x.shop(0, 5), 9);
        Check.due("wind(1, 0) of image 2", x.wind(1, 0), 4);
        Check.due("act(0, 5) of image 2", x.act(0, 5), 2);
        Check.due("least of image 2", x.least(0, 1, 0, 1), 1);
        Check.due("soonest of image 2", x.soonest(0, 1, 0, 1), 1);
    }

    private static void imagesOfNothing() {
        BalloonGrocers x = new BalloonGrocers();
        Check.due("keep(0) of nothing", x.keep(0), 0);
        Check.tell(x, TEXT);
        x.row(1, 2, 3);
        Check.due("valley()", x.valley(), 7);
        Check.tell(x, "valley wide 9");
        x.valley();
        Check.tell(x, "valley wide 2");
        Check.due("back(0)", x.back(0), 0);
        Check.due("no valley then", x.money(), -2);
        Check.due("count(6) then", x.count(6), 0);
        Check.due("the tape stays", x.count(10), 13);
        Check.due("the slots stay", x.count(12), 1);
        Check.due("the fault stays", x.fault(0), 2);
    }

    private static void rows() {
        BalloonGrocers x = new BalloonGrocers();
        Check.due("row(4, 0, 1)", x.row(4, 0, 1), -2);
        Check.due("row(-1, 0, 1)", x.row(-1, 0, 1), -2);
        Check.due("row(0, 4, 1)", x.row(0, 4, 1), -2);
        Check.due("row(0, -1, 1)", x.row(0, -1, 1), -2);
        Check.due("row(0, 0, 61)", x.row(0, 0, 61), -2);
        Check.due("row(0, 0, -1)", x.row(0, 0, -1), -3);
        Check.due("row(0, 0, least)", x.row(0, 0, Integer.MIN_VALUE), -3);
        Check.due("count(12)", x.count(12), 0);
        Check.due("row(0, 3, 60)", x.row(0, 3, 60), 0);
        Check.due("row(3, 0, 0)", x.row(3, 0, 0), 0);
        Check.due("count(12)", x.count(12), 2);
        Check.due("row(0, 0, -1) again", x.row(0, 0, -1), -3);
        Check.due("its row stays", x.write(0, 59, 1), 0);
        Check.due("row in place of another", x.row(0, 1, 2), 0);
        Check.due("write beyond it", x.write(0, 2, 1), -7);
        Check.due("count(12)", x.count(12), 2);
    }

    /** A number shows itself by kites: hour and wind 0 is so in all layers of a still valley. */
    private static BalloonGrocers still() {
        return Check.told(1, "valley wide 2 deep 2 layers 2 hours 2 cools 0;");
    }

    private static void writes() {
        BalloonGrocers x = still();
        Check.due("write(4, ..)", x.write(4, 0, 0), -2);
        Check.due("write(-1, ..)", x.write(-1, 0, 0), -2);
        Check.due("write to nothing", x.write(0, 0, 0), -6);
        long[] cuts = {256L, 65536L, 1L << 32};
        for (int width = 0; width < 4; width++) {
            x.row(0, width, 2);
            Check.due("all 0", x.kites(0), 3);
            Check.due("write -1st", x.write(0, -1, 0), -7);
            Check.due("write 3rd", x.write(0, 2, 0), -7);
            Check.due("write 5", x.write(0, 1, 5), 0);
            Check.due("no wind", x.kites(0), -2);
            for (int i = 0; i < 3; i++) {
                Check.due("write", x.write(0, 1, cuts[i]), 0);
                Check.due("cut to width " + width, x.kites(0), i >= width ? 3 : -2);
            }
            Check.due("write least", x.write(0, 1, Long.MIN_VALUE), 0);
            Check.due("least cut to width " + width, x.kites(0), width < 3 ? 3 : -2);
            Check.due("write 1", x.write(0, 1, 1), 0);
            Check.due("north nowhere", x.kites(0), 0);
            x.row(0, width, 2);
            Check.due("all 0 again", x.kites(0), 3);
        }
    }

    private static void pastes() {
        BalloonGrocers x = still();
        Check.due("paste from no slot", x.paste(4, 0, 0, 0, 0), -2);
        Check.due("paste to no slot", x.paste(0, 0, -1, 0, 0), -2);
        Check.due("paste from nothing", x.paste(0, 0, 1, 0, 0), -6);
        x.row(0, 1, 4);
        Check.due("paste to nothing", x.paste(0, 0, 1, 0, 0), -6);
        x.row(1, 2, 2);
        Check.due("paste to another width", x.paste(0, 9, 1, 0, 1), -8);
        x.row(1, 1, 2);
        int[][] beyond = {{-1, 0, 1}, {0, -1, 1}, {0, 0, -1}, {4, 0, 1}, {0, 2, 1}, {0, 0, 3}, {3, 0, 2},
            {2147483647, 0, 1}, {0, 2147483647, 1}, {1, 1, 2147483647}, {5, 0, 0}};
        for (int[] b : beyond) {
            Check.due("paste beyond " + b[0] + " " + b[1] + " " + b[2], x.paste(0, b[0], 1, b[1], b[2]), -7);
        }
        Check.due("paste none at the ends", x.paste(0, 4, 1, 2, 0), 0);
        x.write(0, 2, 1);
        x.write(0, 3, 4);
        Check.due("paste", x.paste(0, 2, 1, 0, 2), 0);
        x.turn(1, 1, 4);
        Check.due("kites of what was pasted", x.kites(1), 2);
        // Numbers 1 0 1 4 moved by one over themselves: 1 1 0 1, as they were.
        x.write(0, 0, 1);
        Check.due("paste over itself", x.paste(0, 0, 0, 1, 3), 0);
        x.row(2, 1, 2);
        x.paste(0, 2, 2, 0, 2);
        x.turn(1, 0, 1);
        Check.due("its last two are 0 1", x.kites(2), 2);
        x.paste(0, 0, 2, 0, 2);
        x.turn(1, 1, 1);
        Check.due("its first two are 1 1", x.kites(2), 2);
        // And back: 1 1 0 1 by one to the left: 1 0 1 1.
        Check.due("paste back over itself", x.paste(0, 1, 0, 0, 3), 0);
        x.row(3, 1, 4);
        x.paste(0, 0, 3, 0, 4);
        x.turn(1, 1, 0);
        x.write(3, 0, 0);
        x.write(3, 1, 1);
        Check.due("0 1 1 1", x.kites(3), 0);
        x.turn(1, 1, 1);
        Check.due("0 1 1 1 with north in hour 1", x.kites(3), 2);
    }
}
