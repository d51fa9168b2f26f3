/** Promises 1 to 5: a new object, the tape, the valley's text and its faults. */
public final class ReadingTest {
    private static final String SIZES = "valley wide 4 deep 3 layers 3 hours 6 cools 0;";

    public static void main(String[] args) {
        newObject();
        tape();
        goodTexts();
        faultsOfSizes();
        faultsOfLines();
        tooMany();
        whatStays();
        whatWasCutOff();
        newValley();
        Check.finish("ReadingTest");
    }

    private static void newObject() {
        BalloonGrocers x = new BalloonGrocers();
        for (int what = 0; what <= 12; what++) {
            Check.due("count(" + what + ") of a new object", x.count(what), 0);
        }
        Check.due("fault(0) ahead of any", x.fault(0), 0);
        Check.due("fault(1) ahead of any", x.fault(1), -1);
        Check.due("fault(2) ahead of any", x.fault(2), -1);
        Check.due("fault(-1) ahead of any", x.fault(-1), -1);
        Check.due("money() of a new object", x.money(), -2);
        Check.due("shop(0, 0) of a new object", x.shop(0, 0), -2);
        Check.due("back(0) of a new object", x.back(0), -6);
    }

    private static void tape() {
        BalloonGrocers x = new BalloonGrocers();
        Check.due("end(0) of nothing", x.end(0), 0);
        Check.due("end(1) of nothing", x.end(1), -1);
        for (int i = 1; i <= 80; i++) {
            Check.due("feed " + i, x.feed(0x20202020, 0x20202020, 0x0a0a0a0a, 0x20202020, 0x20202020), 20 * i);
        }
        Check.due("feed 81", x.feed(1, 2, 3, 4, 5), -1);
        Check.due("count(10)", x.count(10), 1600);
        Check.due("end(-1)", x.end(-1), -1);
        Check.due("end(1601)", x.end(1601), -1);
        Check.due("end(1600)", x.end(1600), 1600);
        Check.due("end(1581)", x.end(1581), 1581);
        Check.due("feed beyond 1600", x.feed(1, 2, 3, 4, 5), -1);
        Check.due("end(1580)", x.end(1580), 1580);
        Check.due("feed to 1600", x.feed(0x20202020, 0x20202020, 0x20202020, 0x20202020, 0x20202020), 1600);
        Check.due("valley() of blanks", x.valley(), 0);
        Check.due("count(10) behind it", x.count(10), 0);
    }

    private static void goodTexts() {
        Check.told(1, SIZES);
        Check.told(0, "");
        Check.told(0, " \n ");
        BalloonGrocers x = Check.told(2, "valley wide2deep8layers5hours24cools24;\n\nsells\nwithin 0004 price 00000000000000000099 ;");
        Check.due("wide", x.count(0), 2);
        Check.due("deep", x.count(1), 8);
        Check.due("layers", x.count(2), 5);
        Check.due("hours", x.count(3), 24);
        Check.due("cools", x.count(4), 24);
        Check.due("reach", x.count(5), 4);
        Check.due("price", x.count(6), 99);
        Check.due("lines", x.count(9), 2);
        Check.due("fault(0) without", x.fault(0), 0);
        Check.due("fault(1) without", x.fault(1), -1);
        Check.due("valley() of nothing", x.valley(), 0);
        Check.due("wide without a valley", x.count(0), 0);
        Check.due("price without a valley", x.count(6), 0);
        x = Check.told(3, SIZES + "sells within 2 price 4;sells within 1 price 0;");
        Check.due("reach of the later", x.count(5), 1);
        Check.due("price of the later", x.count(6), 0);
        x = Check.told(1, SIZES);
        Check.due("reach without", x.count(5), 0);
        Check.due("price without", x.count(6), 9);
    }

    /** The faulty token is the one behind the sign |. */
    private static void faulty(int fault, String text) {
        int place = text.indexOf('|');
        BalloonGrocers x = new BalloonGrocers();
        Check.tell(x, text.substring(0, place) + text.substring(place + 1));
        Check.due("valley() of " + text, x.valley(), -4);
        Check.due("fault(0) of " + text, x.fault(0), fault);
        Check.due("fault(1) of " + text, x.fault(1), place);
        Check.due("fault(2) of " + text, x.fault(2), -1);
        Check.due("lines behind " + text, x.count(9), 0);
    }

    private static void faultsOfSizes() {
        faulty(1, "|;");
        faulty(1, "|7");
        faulty(1, "|shop at 0 0 0 sand 0 gas 0 goods 0;");
        faulty(1, " |valleys wide 2");
        faulty(1, "|valleywide 2");
        faulty(1, "|Valley");
        faulty(1, "valley|");
        faulty(1, "valley \n |");
        faulty(1, "valley |deep 3 wide 2");
        faulty(1, "valley wide |;");
        faulty(1, "valley wide 4|-");
        faulty(1, "valley wide 4|\t deep 3");
        faulty(1, "valley wide 4 deep 3 layers 3 hours 6 cools 0|");
        faulty(1, "valley wide 4 deep 3 layers 3 hours 6 cools 0 |sells within 0 price 1;");
        faulty(1, "valley wide 4 deep 3 layers 3 hours 6 cools |\u0000;");
        faulty(1, "valley wide 4 deep 3 layers 3 hours 6 cools |\u00e1;");
        faulty(2, "valley wide |9");
        faulty(2, "valley wide |1 deep 9");
        faulty(2, "valley wide 8 deep |9");
        faulty(2, "valley wide 8 deep |1");
        faulty(2, "valley wide 8 deep 2 layers |6");
        faulty(2, "valley wide 8 deep 2 layers |1");
        faulty(2, "valley wide 8 deep 2 layers 2 hours |0");
        faulty(2, "valley wide 8 deep 2 layers 2 hours |25");
        faulty(2, "valley wide 8 deep 2 layers 2 hours 1 cools |25");
        faulty(2, "valley wide |4294967298 deep 2");
        faulty(2, "valley wide |18446744073709551618 deep 2");
    }

    private static void faultsOfLines() {
        faulty(1, SIZES + "|valley wide 4 deep 3 layers 3 hours 6 cools 0;");
        faulty(1, SIZES + "|;");
        faulty(1, SIZES + "|3");
        faulty(1, SIZES + "|fairs at 0 0 from 0 to 0;");
        faulty(2, SIZES + "sells within |3 price 100;");
        faulty(2, SIZES + "sells within 2 price |100;");
        faulty(1, SIZES + "sells |price 3;");
        faulty(1, SIZES + "sells |withinz 0 price 3;");
        faulty(1, SIZES + "sells |awithin 0 price 3;");
        faulty(1, SIZES + "sells within 0|{price 3;");
        faulty(1, SIZES + "sells within 0|`price 3;");
        faulty(1, SIZES + "sells within |/0 price 3;");
        faulty(1, SIZES + "sells within |:0 price 3;");
        faulty(2, SIZES + "wind |0 from 0 east;");
        faulty(2, SIZES + "wind |3 from 0 east;");
        faulty(2, SIZES + "wind 2 from |6 east;");
        faulty(1, SIZES + "wind 2 from 5 |up;");
        faulty(1, SIZES + "wind 2 from 5 |;");
        faulty(1, SIZES + "wind |east from 5 2;");
        faulty(2, SIZES + "shop at |4 0 0 sand 0 gas 0 goods 0;");
        faulty(2, SIZES + "shop at 3 |3 0 sand 0 gas 0 goods 0;");
        faulty(2, SIZES + "shop at 3 2 |3 sand 0 gas 0 goods 0;");
        faulty(2, SIZES + "shop at 3 2 2 sand |10 gas 0 goods 0;");
        faulty(2, SIZES + "shop at 3 2 2 sand 9 gas |10 goods 0;");
        faulty(2, SIZES + "shop at 3 2 2 sand 9 gas 9 goods |10;");
        faulty(2, SIZES + "door at |4 0 wants 0;");
        faulty(2, SIZES + "door at 3 |3 wants 0;");
        faulty(2, SIZES + "door at 3 2 wants |10;");
        faulty(2, SIZES + "door at 3 2 wants 9;door at 3 |2 wants 10;");
        faulty(2, SIZES + "door at 3 2 wants 9;door at 2 2 wants 9;door at 3 |2 lacks");
        faulty(2, SIZES + "fair at |4 0 from 0 to 0;");
        faulty(2, SIZES + "fair at 3 |3 from 0 to 0;");
        faulty(2, SIZES + "fair at 3 2 from |6 to 6;");
        faulty(2, SIZES + "fair at 3 2 from 5 to |6;");
        faulty(2, SIZES + "fair at 3 2 from 5 to |4;");
        faulty(2, SIZES + "plan |0 0 rises;");
        faulty(2, SIZES + "plan |0 0 rises;shop at 3 2 2 sand 9 gas 9 goods 9;");
        faulty(2, SIZES + "shop at 3 2 2 sand 9 gas 9 goods 9;plan |1 0 rises;");
        faulty(2, SIZES + "shop at 3 2 2 sand 9 gas 9 goods 9;plan 0 |6 rises;");
        faulty(1, SIZES + "shop at 3 2 2 sand 9 gas 9 goods 9;plan 0 5 |hangs;");
        faulty(1, SIZES + "shop at 3 2 2 sand 9 gas 9 goods 9;plan 0 5 sinks|");
    }

    private static void tooMany() {
        StringBuilder winds = new StringBuilder(SIZES);
        for (int i = 0; i < 20; i++) {
            winds.append("wind 1 from 2 east;");
        }
        Check.told(21, winds.toString());
        faulty(3, winds + "|wind 9 up");
        StringBuilder shops = new StringBuilder(SIZES);
        for (int i = 0; i < 4; i++) {
            shops.append("shop at 0 0 0 sand 0 gas 0 goods 0;");
        }
        Check.told(5, shops.toString());
        faulty(3, shops + "|shop");
        StringBuilder doors = new StringBuilder(SIZES);
        for (int i = 0; i < 5; i++) {
            doors.append("door at ").append(i % 4).append(' ').append(i / 4).append(" wants 0;");
        }
        Check.told(6, doors.toString());
        faulty(3, doors + "|door at 0 0 wants 0;");
    }

    /** Bytes behind the end are none, whatever was fed there. */
    private static void whatWasCutOff() {
        String[] texts = {"valley wide 4", "valley wid", "valley wide 4 "};
        for (String text : texts) {
            BalloonGrocers x = new BalloonGrocers();
            Check.tell(x, text + (text.equals("valley wid") ? "e 4" : "5 deep 3"));
            x.end(text.length());
            Check.due("valley() of " + text, x.valley(), -4);
            Check.due("fault(0) of " + text, x.fault(0), 1);
            Check.due("fault(1) of " + text, x.fault(1), text.equals("valley wid") ? 7 : text.length());
        }
        StringBuilder full = new StringBuilder(SIZES);
        while (full.length() < 1600) {
            full.append(full.length() < 1560 ? " " : full.length() < 1595 ? "\n" : "5");
        }
        BalloonGrocers x = new BalloonGrocers();
        Check.tell(x, full.toString());
        Check.due("valley() of 1600 bytes", x.valley(), -4);
        Check.due("fault(1) of 1600 bytes", x.fault(1), 1595);
        Check.tell(x, full.substring(0, 1595));
        Check.due("valley() without the last", x.valley(), 1);
        Check.due("feed in front of what was there", x.feed(0x20202020, 0x20202020, 0x20202020, 0x20202020, 0x20202020), 20);
        Check.due("valley() of blanks", x.valley(), 0);
    }

    /** Nothing of an old valley is told of the new one. */
    private static void newValley() {
        String lines = "wind 1 from 0 east;sells within 1 price 5;fair at 0 0 from 0 to 5;";
        BalloonGrocers x = Check.told(6, SIZES + lines + "shop at 0 0 0 sand 1 gas 1 goods 1;door at 0 0 wants 1;");
        Check.due("money()", x.money(), 5);
        Check.due("least(0, 2, 0, 1)", x.least(0, 2, 0, 1), 1);
        Check.due("tour(0, 1)", x.tour(0, 1), 0);
        Check.due("way(0, 2, 0, 1, 0)", x.way(0, 2, 0, 1, 0), 1);
        Check.tell(x, SIZES + "shop at 1 1 1 sand 0 gas 0 goods 1;door at 0 0 wants 1;");
        Check.due("valley()", x.valley(), 3);
        Check.due("money() of the new", x.money(), 0);
        Check.due("least(0, 2, 0, 1) of the new", x.least(0, 2, 0, 1), -1);
        Check.due("tour(0, 1) of the new", x.tour(0, 1), -1);
        Check.due("way(0, 2, 0, 1, 0) of the new", x.way(0, 2, 0, 1, 0), -1);
        Check.due("wind(1, 0) of the new", x.wind(1, 0), 0);
        Check.due("fair(0) of the new", x.fair(0), -1);
        Check.due("count(5) of the new", x.count(5), 0);
        Check.due("count(6) of the new", x.count(6), 9);
    }

    private static void whatStays() {
        BalloonGrocers x = Check.told(2, SIZES + "shop at 1 2 0 sand 3 gas 4 goods 5;");
        x.plan(0, 0, 1);
        Check.tell(x, "valley wide 9");
        Check.due("valley() with a fault", x.valley(), -4);
        Check.due("the tape is empty", x.count(10), 0);
        Check.due("the valley stays", x.count(9), 2);
        Check.due("the changes stay", x.count(11), 1);
        Check.due("its fault", x.fault(0), 2);
        Check.due("its place", x.fault(1), 12);
        Check.tell(x, "valley wide 2 deep 2 layers 2 hours 1 cools 0;");
        Check.due("valley() in place of another", x.valley(), 1);
        Check.due("the tape is empty", x.count(10), 0);
        Check.due("its shops", x.count(7), 0);
        Check.due("its changes", x.count(11), 0);
        Check.due("no fault", x.fault(0), 0);
        Check.due("no place", x.fault(1), -1);
    }
}
