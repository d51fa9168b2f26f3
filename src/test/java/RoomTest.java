import com.sun.management.ThreadMXBean;
import java.lang.management.ManagementFactory;

/** All calls of a run live in one room: the rows are made once, and calls make next to nothing. */
public final class RoomTest {
    public static void main(String[] args) {
        StringBuilder t = new StringBuilder("valley wide 8 deep 8 layers 5 hours 24 cools 6;sells within 2 price 9;");
        for (int i = 0; i < 20; i++) {
            t.append("wind " + (1 + i % 4) + " from " + i / 4 * 5 + (i % 3 == 0 ? " east;" : " north;"));
        }
        for (int i = 0; i < 4; i++) {
            t.append("shop at " + i + " " + i + " 2 sand 9 gas 9 goods 9;door at " + i + " 5 wants 9;");
        }
        t.append("fair at 3 3 from 0 to 23;");
        run(t.toString());
        long before = made();
        run(t.toString());
        long bytes = made() - before;
        // 7.3 million elements are allowed to a whole run; this is one object with all its rows.
        Check.due("a run makes " + bytes + " bytes, less than 500,000", bytes < 500000 ? 1 : 0, 1);
        Check.finish("RoomTest");
    }

    private static long made() {
        ThreadMXBean bean = (ThreadMXBean) ManagementFactory.getThreadMXBean();
        return bean.getThreadAllocatedBytes(Thread.currentThread().getId());
    }

    private static void run(String text) {
        BalloonGrocers x = new BalloonGrocers();
        Check.tell(x, text);
        x.valley();
        x.row(0, 0, 60);
        for (int i = 0; i < 25; i++) {
            x.turn(1, i % 24, i % 5);
            x.least(i % 4, 7, 7, 3);
            x.way(i % 4, 5, 5, 2, 3);
            x.tour(i % 4, 15);
            x.doors(i % 4, 9, 1);
            x.fair(i % 4);
            x.aloft(i % 4);
            x.ways(i % 4, 23);
            x.meet(0, 1 + i % 3);
            x.rope(0, 1 + i % 3);
            x.best();
            x.other(i % 5);
            x.chance(i, 20, 50, 0, 3, 3);
            x.who(i % 8, 3);
            x.smoke(0);
            x.kites(0);
            x.keep(i % 3);
            x.back(i % 3);
        }
    }
}
