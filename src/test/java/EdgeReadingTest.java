/** The boundary cases of term I and of promises 1 to 5, sentence by sentence. */
public final class EdgeReadingTest {
    private static final String SIZES = "valley wide 4 deep 3 layers 3 hours 6 cools 0;";
    private static final String SHOP = "shop at 0 0 0 sand 0 gas 0 goods 0;";

    public static void main(String[] args) {
        form();
        firstLine();
        sizes();
        sells();
        winds();
        shops();
        doors();
        fairs();
        plans();
        numbered();
        blanks();
        longest();
        words();
        firstFault();
        places();
        leastFault();
        faultOne();
        faultTwo();
        faultThree();
        newObject();
        feed();
        feedTooMuch();
        end();
        endRefused();
        valley();
        valleyOfNothing();
        valleyRefused();
        fault();
        faultOfNone();
        Check.finish("EdgeReadingTest");
    }

    private static void good(String text) {
        Check.told(text);
    }

    /** The faulty token is the one behind the sign |. */
    private static void faulty(int fault, String text) {
        int place = text.indexOf('|');
        BalloonGrocers x = new BalloonGrocers();
        Check.tell(x, text.substring(0, place) + text.substring(place + 1));
        Check.due("valley() of " + text, x.valley(), -4);
        Check.due("fault(0) of " + text, x.fault(0), fault);
        Check.due("fault(1) of " + text, x.fault(1), place);
    }

    /** Between ahead and behind stands a number: from least to most it is good. */
    private static void number(String ahead, int least, int most, String behind) {
        int[] within = {least, most};
        for (int n : within) {
            good(ahead + n + behind);
            good(ahead + "000" + n + behind);
        }
        if (least > 0) {
            faulty(2, ahead + "|" + (least - 1) + behind);
            faulty(2, ahead + "|0" + behind);
        }
        String[] beyond = {"" + (most + 1), "0" + (most + 1), "" + (most + 10), "" + (most + 256L), "" + (4294967296L + least),
            "18446744073709551616", "99999999999999999999999999999999999999", "" + most + "0"};
        for (String n : beyond) {
            if (!n.equals("00")) {
                faulty(2, ahead + "|" + n + behind);
            }
        }
    }

    private static void form() {
        Check.of("T1", "VALLEY: {LINE ;}");
        good("");
        good(SIZES);
        good(SIZES + "sells within 0 price 0;");
        faulty(1, "|;");
        faulty(1, SIZES + "|;");
        faulty(1, "valley wide 4 deep 3 layers 3 hours 6 cools 0|");
        faulty(1, SIZES + "sells within 0 price 0|");
        faulty(1, SIZES + "sells within 0 price 0 |sells within 0 price 0;");
        Check.of("T1", "LINE: valley wide N deep N layers N hours N cools N");
        faulty(1, "valley |4 deep 3 layers 3 hours 6 cools 0;");
        faulty(1, "valley wide |deep 3 layers 3 hours 6 cools 0;");
        faulty(1, "valley wide 4 deep 3 layers 3 hours 6|;");
        faulty(1, "valley wide 4 deep 3 layers 3 hours 6 cools 0 |0;");
        faulty(1, "valley wide 4 deep 3 layers 3 |cools 0 hours 6;");
    }

    private static void firstLine() {
        Check.of("T1", "valley is the first LINE and no other");
        faulty(1, "|sells within 0 price 0;" + SIZES);
        faulty(1, "|" + SHOP);
        faulty(1, SIZES + "|" + SIZES);
        faulty(1, SIZES + SHOP + "|valley");
    }

    private static void sizes() {
        Check.of("T1", "wide, deep 2 .. 8");
        number("valley wide ", 2, 8, " deep 3 layers 3 hours 6 cools 0;");
        number("valley wide 4 deep ", 2, 8, " layers 3 hours 6 cools 0;");
        Check.of("T1", "layers 2 .. 5");
        number("valley wide 4 deep 3 layers ", 2, 5, " hours 6 cools 0;");
        Check.of("T1", "hours 1 .. 24");
        number("valley wide 4 deep 3 layers 3 hours ", 1, 24, " cools 0;");
        Check.of("T1", "cools 0 .. 24");
        number("valley wide 4 deep 3 layers 3 hours 6 cools ", 0, 24, ";");
        BalloonGrocers x = Check.told("valley wide 8 deep 2 layers 5 hours 24 cools 24;");
        int[] due = {8, 2, 5, 24, 24};
        for (int what = 0; what < due.length; what++) {
            Check.due("count(" + what + ")", x.count(what), due[what]);
        }
    }

    private static void sells() {
        Check.of("T1", "sells: within (reach) 0 .. layers less 1");
        for (int layers = 2; layers <= 5; layers++) {
            number("valley wide 4 deep 3 layers " + layers + " hours 6 cools 0;sells within ", 0, layers - 1, " price 0;");
        }
        Check.of("T1", "price 0 .. 99");
        number(SIZES + "sells within 0 price ", 0, 99, ";");
        Check.of("T1", "a later one strikes; 0, 9 without");
        BalloonGrocers x = Check.told(SIZES);
        Check.due("reach without", x.count(5), 0);
        Check.due("price without", x.count(6), 9);
        x = Check.told(SIZES + "sells within 2 price 99;" + SHOP + "sells within 1 price 0;");
        Check.due("reach of the later", x.count(5), 1);
        Check.due("price of the later", x.count(6), 0);
    }

    private static void winds() {
        Check.of("T1", "wind: a LAYER 1 .. layers less 1");
        for (int layers = 2; layers <= 5; layers++) {
            number("valley wide 4 deep 3 layers " + layers + " hours 6 cools 0;wind ", 1, layers - 1, " from 0 east;");
        }
        Check.of("T1", "from an HOUR on till the next such");
        for (int hours = 1; hours <= 24; hours += 23) {
            number("valley wide 4 deep 3 layers 3 hours " + hours + " cools 0;wind 1 from ", 0, hours - 1, " east;");
        }
        BalloonGrocers x = Check.told(SIZES + "wind 1 from 3 west;wind 1 from 1 east;wind 2 from 5 south;");
        rowOfWinds(x, 0, 0, 0, 0, 0, 0, 0);
        rowOfWinds(x, 1, 0, 2, 2, 4, 4, 4);
        rowOfWinds(x, 2, 0, 0, 0, 0, 0, 3);
        Check.of("T1", "a later LINE of that LAYER and HOUR strikes; still ahead of all");
        x = Check.told(SIZES + "wind 1 from 2 west;wind 2 from 2 east;wind 1 from 2 north;wind 1 from 4 still;");
        rowOfWinds(x, 1, 0, 0, 1, 1, 0, 0);
        rowOfWinds(x, 2, 0, 0, 2, 2, 2, 2);
        Check.of("T1", "DIR: still | north | east | south | west");
        x = Check.told(SIZES + "wind 1 from 0 north;wind 1 from 1 east;wind 1 from 2 south;wind 1 from 3 west;wind 1 from 4 still;");
        rowOfWinds(x, 1, 1, 2, 3, 4, 0, 0);
        faulty(1, SIZES + "wind 1 from 0 |northeast;");
        faulty(1, SIZES + "wind 1 from 0 |eas;");
        faulty(1, SIZES + "wind 1 from 0 |2;");
        faulty(1, SIZES + "wind 1 from 0|;");
        faulty(1, SIZES + "wind 1 from 0|");
    }

    private static void rowOfWinds(BalloonGrocers x, int layer, int... due) {
        for (int hour = 0; hour < due.length; hour++) {
            Check.due("wind(" + layer + ", " + hour + ")", x.wind(layer, hour), due[hour]);
        }
    }

    private static void shops() {
        Check.of("T1", "shop: x below wide, y below deep, LAYER");
        for (int side = 2; side <= 8; side += 3) {
            number("valley wide " + side + " deep 3 layers 3 hours 6 cools 0;shop at ", 0, side - 1, " 0 0 sand 0 gas 0 goods 0;");
            number("valley wide 4 deep " + side + " layers 3 hours 6 cools 0;shop at 0 ", 0, side - 1, " 0 sand 0 gas 0 goods 0;");
        }
        number("valley wide 4 deep 3 layers 2 hours 6 cools 0;shop at 0 0 ", 0, 1, " sand 0 gas 0 goods 0;");
        number("valley wide 4 deep 3 layers 5 hours 6 cools 0;shop at 0 0 ", 0, 4, " sand 0 gas 0 goods 0;");
        Check.of("T1", "sand, gas, goods 0 .. 9");
        number(SIZES + "shop at 0 0 0 sand ", 0, 9, " gas 0 goods 0;");
        number(SIZES + "shop at 0 0 0 sand 0 gas ", 0, 9, " goods 0;");
        number(SIZES + "shop at 0 0 0 sand 0 gas 0 goods ", 0, 9, ";");
        BalloonGrocers x = Check.told(SIZES + "shop at 3 2 2 sand 9 gas 0 goods 8;shop at 3 2 2 sand 9 gas 0 goods 8;");
        int[] due = {3, 2, 2, 9, 0, 8};
        for (int what = 0; what < due.length; what++) {
            Check.due("shop(1, " + what + ") where another one is", x.shop(1, what), due[what]);
        }
    }

    private static void doors() {
        Check.of("T1", "door: a column without one");
        number(SIZES + "door at ", 0, 3, " 0 wants 0;");
        number(SIZES + "door at 0 ", 0, 2, " wants 0;");
        good(SIZES + SHOP + "fair at 0 0 from 0 to 0;door at 0 0 wants 0;");
        good(SIZES + "door at 1 2 wants 0;door at 2 1 wants 0;door at 1 1 wants 0;door at 2 2 wants 0;");
        faulty(2, SIZES + "door at 1 2 wants 0;door at 2 1 wants 0;door at 1 |2 wants 0;");
        faulty(2, SIZES + "door at 0 0 wants 0;door at 0 |0 wants 0;");
        Check.of("T1", "wants 0 .. 9");
        number(SIZES + "door at 0 0 wants ", 0, 9, ";");
    }

    private static void fairs() {
        Check.of("T1", "fair: a column, HOURS from one to no less");
        number(SIZES + "fair at ", 0, 3, " 0 from 0 to 0;");
        number(SIZES + "fair at 0 ", 0, 2, " from 0 to 0;");
        number(SIZES + "fair at 0 0 from ", 0, 5, " to 5;");
        number(SIZES + "fair at 0 0 from 0 to ", 0, 5, ";");
        number(SIZES + "fair at 0 0 from 3 to ", 3, 5, ";");
        number(SIZES + "fair at 0 0 from 5 to ", 5, 5, ";");
        Check.of("T1", "no less (a later one strikes)");
        BalloonGrocers x = Check.told(SIZES + SHOP + "fair at 0 0 from 0 to 5;fair at 0 0 from 2 to 3;");
        Check.due("fair(0) of the later hours", x.fair(0), 2);
        x = Check.told(SIZES + SHOP + "fair at 0 0 from 0 to 5;fair at 1 0 from 0 to 5;");
        Check.due("fair(0) of the later column", x.fair(0), 0);
    }

    private static void plans() {
        Check.of("T1", "plan: a SHOP told ahead");
        number(SIZES + SHOP + "plan ", 0, 0, " 0 rises;");
        number(SIZES + SHOP + SHOP + SHOP + SHOP + "plan ", 0, 3, " 0 sinks;");
        faulty(2, SIZES + "plan |0 0 rises;");
        faulty(2, SIZES + "plan |0 0 rises;" + SHOP);
        faulty(2, SIZES + SHOP + "plan |1 0 rises;" + SHOP);
        good(SIZES + SHOP + "plan 0 0 rises;" + SHOP + "plan 1 0 rises;");
        Check.of("T1", "an HOUR (a later one of these strikes; hangs without)");
        number(SIZES + SHOP + "plan 0 ", 0, 5, " rises;");
        BalloonGrocers x = Check.told(SIZES + SHOP + SHOP + "plan 0 0 rises;plan 0 5 sinks;plan 0 0 sinks;plan 1 5 sinks;plan 1 5 rises;");
        int[] due = {2, 0, 0, 0, 0, 2};
        for (int hour = 0; hour < 6; hour++) {
            Check.due("act(0, " + hour + ")", x.act(0, hour), due[hour]);
            Check.due("act(1, " + hour + ")", x.act(1, hour), hour == 5 ? 1 : 0);
        }
        Check.of("T1", "plan S N rises | plan S N sinks");
        faulty(1, SIZES + SHOP + "plan 0 0 |hangs;");
        faulty(1, SIZES + SHOP + "plan 0 0|;");
        faulty(1, SIZES + SHOP + "plan 0 |rises;");
        faulty(1, SIZES + SHOP + "plan 0 0 |1;");
    }

    private static void numbered() {
        Check.of("T1", "SHOPS 0 .. 3, DOORS 0 .. 4 are numbered as they stand");
        StringBuilder shops = new StringBuilder(SIZES);
        for (int i = 0; i < 4; i++) {
            shops.append("shop at 0 0 0 sand ").append(9 - i).append(" gas 0 goods 0;");
        }
        StringBuilder doors = new StringBuilder(SIZES);
        for (int i = 0; i < 5; i++) {
            doors.append("door at ").append(i % 4).append(' ').append(i / 4).append(" wants ").append(9 - i).append(';');
        }
        BalloonGrocers x = Check.told(shops.toString());
        for (int i = 0; i < 4; i++) {
            Check.due("sand of shop " + i, x.shop(i, 3), 9 - i);
        }
        Check.due("shops", x.count(7), 4);
        x = Check.told(doors.toString());
        for (int i = 0; i < 5; i++) {
            Check.due("wants of door " + i, x.door(i, 2), 9 - i);
        }
        Check.due("doors", x.count(8), 5);
        Check.of("T1", "twenty winds (LINES)");
        Check.due("lines of twenty winds", Check.told(SIZES + "wind 2 from 3 east;".repeat(20)).count(9), 21);
    }

    private static void blanks() {
        Check.of("T1", "TOKENS, blanks (32, 10) aside");
        good(" \n  valley\nwide \n 4 deep 3 layers 3 hours 6 cools 0\n;\n ");
        String[] none = {"\t", "\r", "\u000b", "\f", "\0", "\u001f", "!", "\u00a0", "\u008a", "\u000e", "_", "-", ",", "."};
        for (String sign : none) {
            faulty(1, "|" + sign + SIZES);
            faulty(1, "valley|" + sign + "wide 4 deep 3 layers 3 hours 6 cools 0;");
            faulty(1, SIZES + "|" + sign);
        }
        faulty(1, "|val ley wide 4");
        faulty(1, "valley wide 4 |0 deep 3");
    }

    private static void longest() {
        Check.of("T1", "the longest: words (a .. z), numbers (digits), the sign ;");
        good("valley wide4deep3layers3hours6cools0;sells within0price0;");
        faulty(1, "|valleywide 4 deep 3");
        faulty(2, "valley wide |44 deep 3");
        good(SIZES + "sells within 0 price 99;");
        faulty(1, SIZES + "wind 1 from 0 |eastwest;");
        String[] beside = {"`", "{", "/", ":", "<", "A", "Z", "@", "[", "\u00e1", "\u00fa", "\u00b0", "\u00bb"};
        for (String sign : beside) {
            faulty(1, "valley|" + sign + " wide 4");
            faulty(1, "valley wide 4|" + sign + " deep 3");
            faulty(1, "valley wide 4 deep 3 layers 3 hours 6 cools 0|" + sign);
        }
        faulty(1, SIZES + "|a");
        faulty(1, SIZES + "|z");
        good("valley wide 4 deep 3 layers 3 hours 10 cools 19;wind 1 from 9 east;");
    }

    /** Every word of every line, spoilt at its first letter, at its last, made longer, made shorter. */
    private static void words() {
        Check.of("T1", "1 a TOKEN that is none, or can't stand there");
        String text = SIZES + "sells within 2 price 9;wind 1 from 0 still;wind 1 from 0 north;wind 1 from 0 east;wind 1 from 0 south;"
            + "wind 1 from 0 west;" + SHOP + "door at 0 0 wants 1;fair at 0 0 from 0 to 0;plan 0 0 rises;plan 0 0 sinks;";
        good(text);
        java.util.regex.Matcher m = java.util.regex.Pattern.compile("[a-z]+").matcher(text);
        while (m.find()) {
            String word = m.group();
            int last = word.length() - 1;
            String[] spoilt = {"q" + word.substring(1), word.substring(0, last) + "q", word + "a", word + "z", "a" + word, "z" + word,
                word.substring(1), word.substring(0, last), word.toUpperCase().charAt(0) + word.substring(1)};
            for (String other : spoilt) {
                faulty(1, text.substring(0, m.start()) + "|" + other + text.substring(m.end()));
            }
        }
    }

    private static void firstFault() {
        Check.of("T1", "FAULTS, the first by its place");
        faulty(2, "valley wide |9 deep 9 tall ; !");
        faulty(1, "valley |tall 9 deep 9");
        faulty(2, SIZES + "door at 0 0 wants 0;door at |9 0 wants 99;");
        faulty(2, SIZES + "door at 0 0 wants 0;door at 0 |0 wants 99;");
        faulty(1, SIZES + "|! " + (SHOP + SHOP + SHOP + SHOP) + SHOP);
        faulty(3, SIZES + SHOP + SHOP + SHOP + SHOP + "|shop at 9 !");
    }

    private static void places() {
        Check.of("T1", "a TOKEN's first byte; the end's");
        faulty(1, "|v");
        faulty(1, " \n|valleys");
        faulty(2, "valley wide \n\n  |123456 deep 3");
        faulty(1, "valley|");
        faulty(1, "valley wide 4 \n  |");
        faulty(1, SIZES + "wind 1 from 0 east |");
        BalloonGrocers x = new BalloonGrocers();
        Check.tell(x, SIZES + " ".repeat(1600 - 46 - 4) + "door");
        Check.due("valley() of 1,600 bytes", x.valley(), -4);
        Check.due("fault(1) at the end of 1,600 bytes", x.fault(1), 1600);
        Check.tell(x, SIZES + " ".repeat(1600 - 46 - 1) + "?");
        Check.due("valley() of 1,600 bytes", x.valley(), -4);
        Check.due("fault(1) at the last of 1,600 bytes", x.fault(1), 1599);
    }

    private static void leastFault() {
        Check.of("T1", "of one place the least");
        faulty(1, "|99");
        faulty(1, "valley |99");
        faulty(1, SIZES + "sells within 0 |99");
        faulty(1, SIZES + "|25 " + SHOP);
        faulty(1, SIZES + "wind 1 |99 from 0 east;");
    }

    private static void faultOne() {
        Check.of("T1", "1 a TOKEN that is none, or can't stand there");
        faulty(1, "|?");
        faulty(1, "valley |;");
        faulty(1, SIZES + "shop |0 0 0 sand 0 gas 0 goods 0;");
        faulty(1, SIZES + "door at |wants 0;");
        faulty(1, SIZES + "door at 0 |wants 0;");
        faulty(1, SIZES + "shop at 0 0 |sand 0 gas 0 goods 0;");
        faulty(1, SIZES + "shop at 0 0 0 |gas 0 goods 0;");
        faulty(1, SIZES + "shop at 0 0 0 sand 0 |goods 0;");
        faulty(1, SIZES + "shop at 0 0 0 sand 0 gas 0|;");
        faulty(1, SIZES + "door at 0 0|;");
        faulty(1, SIZES + "fair |0 0 from 0 to 0;");
        faulty(1, SIZES + "fair at 0 0 |to 0;");
        faulty(1, SIZES + "fair at 0 0 from 0|;");
        faulty(1, SIZES + "wind 1 |east;");
        faulty(1, SIZES + "sells within 0|;");
        faulty(1, SIZES + "sells within 0 price|;");
        Check.of("T1", "(valley behind the first LINE, another word ahead of it)");
        faulty(1, SIZES + "|valley");
        faulty(1, "|sells");
        faulty(1, "|wind");
        faulty(1, "|shop");
        faulty(1, "|door");
        faulty(1, "|fair");
        faulty(1, "|plan");
        faulty(1, "|hill");
        faulty(1, SIZES + "|hill");
    }

    private static void faultTwo() {
        Check.of("T1", "2 a number out of its bounds, not as said (of a DOOR at its y)");
        faulty(2, SIZES + "door at 3 2 wants 0;door at 3 |2");
        faulty(2, SIZES + "door at 3 2 wants 0;door at 3 |2 wants 10;");
        faulty(2, SIZES + "door at 3 2 wants 0;door at |4 2 wants 0;");
        faulty(2, SIZES + "door at 3 2 wants 0;door at 3 |3 wants 0;");
        faulty(2, SIZES + "fair at 0 0 from 3 to |2;");
        faulty(2, SIZES + "plan |0 9 hangs");
    }

    private static void faultThree() {
        Check.of("T1", "3 a 21st wind, 5th shop, 6th door, at its word");
        String winds = SIZES + "wind 1 from 2 east;wind 2 from 1 west;".repeat(10);
        good(winds);
        good(winds + SHOP);
        faulty(3, winds + "|wind");
        faulty(3, winds + "|wind 9 from 2 east;");
        faulty(3, winds + "|wind 1 from 2 east;");
        faulty(1, winds + "|winds");
        String shops = SIZES + SHOP + SHOP + SHOP + SHOP;
        good(shops);
        good(shops + "wind 1 from 0 east;");
        faulty(3, shops + "|shop");
        faulty(3, shops + "plan 3 0 rises;|" + SHOP);
        StringBuilder doors = new StringBuilder(SIZES);
        for (int i = 0; i < 5; i++) {
            doors.append("door at ").append(i % 4).append(' ').append(i / 4).append(" wants 1;");
        }
        good(doors.toString());
        good(doors + SHOP);
        faulty(3, doors + "|door");
        faulty(3, doors + "|door at 0 0 wants 1;");
        faulty(3, doors + "|door at 3 2 wants 1;");
    }

    private static void newObject() {
        Check.of("P1", "No VALLEY.");
        BalloonGrocers x = new BalloonGrocers();
        for (int what = 0; what <= 12; what++) {
            Check.due("count(" + what + ")", x.count(what), 0);
        }
        int[] none = {x.wind(0, 0), x.often(0, 0), x.shop(0, 0), x.door(0, 0), x.act(0, 0), x.plan(0, 0, 0), x.undo(), x.changed(0, 0),
            x.where(0, 0, 0), x.why(0, 0), x.vain(0), x.blown(0, 0), x.sales(0, -1), x.sold(0, 0), x.money(), x.richest(), x.meets(0, 1),
            x.over(0, 0, 0), x.grounded(0), x.least(0, 0, 0, 0), x.soonest(0, 0, 0, 0), x.way(0, 0, 0, 0, 0), x.spots(0, 0), x.columns(0, 0),
            (int) x.ways(0, 0), x.tour(0, 0), x.done(0, 0), x.doors(0, 0, 0), x.fair(0), x.aloft(0), x.lasts(0), x.meet(0, 1), x.rope(0, 1),
            x.lands(0, 0), x.who(0, 0), x.first(0, 0), x.suspects(0, 0), x.drift(0, 0, 0, 0, 0), x.whence(0, 0, 0, 0, 0), x.smoke(0),
            x.kites(0), x.known(0), x.price(0), x.best(), x.load(0, 3, 0), x.turn(1, 0, 0), x.gust(0, 0, 0, 0), x.chance(0, 1, 0, 0, 0, 0),
            x.takings(0, 0)};
        for (int i = 0; i < none.length; i++) {
            Check.due("question " + i, none[i], -2);
        }
        Check.due("worth(0, 0, 0)", x.worth(0, 0, 0), -1000000);
        Check.due("other(0)", x.other(0), -1000000);
    }

    private static void feed() {
        Check.of("P2", "Twenty bytes come behind the TAPE, four of each number, the highest first: how many it has");
        BalloonGrocers x = new BalloonGrocers();
        // "valley wide 2 deep 2" and " layers 2 hours 1 co" and "ols 0;" with blanks.
        Check.due("feed", x.feed(0x76616c6c, 0x65792077, 0x69646520, 0x32206465, 0x65702032), 20);
        Check.due("feed", x.feed(0x206c6179, 0x65727320, 0x3220686f, 0x75727320, 0x3120636f), 40);
        Check.due("feed", x.feed(0x6f6c7320, 0x303b2020, 0x20202020, 0x20202020, 0x0a0a0a0a), 60);
        Check.due("valley() of what was fed", x.valley(), 1);
        // Bytes of 128 and above, and numbers below 0.
        for (int i = 0; i < 20; i++) {
            int[] numbers = new int[5];
            for (int k = 0; k < 5; k++) {
                numbers[k] = 0x20202020;
            }
            numbers[i / 4] = 0x20202020 ^ (0xdf << 24 - i % 4 * 8);
            Check.due("feed", x.feed(numbers[0], numbers[1], numbers[2], numbers[3], numbers[4]), 20);
            Check.due("valley() with byte 255 at " + i, x.valley(), -4);
            Check.due("its place", x.fault(1), i);
        }
    }

    private static void feedTooMuch() {
        Check.of("P2", "NONE, and none come, if it would have more than 1,600");
        BalloonGrocers x = new BalloonGrocers();
        int blanks = 0x20202020;
        for (int i = 1; i <= 80; i++) {
            Check.due("feed", x.feed(blanks, blanks, blanks, blanks, blanks), 20 * i);
        }
        Check.refused("feed behind 1,600", x, () -> x.feed(0, 0, 0, 0, 0), -1);
        x.end(1581);
        Check.refused("feed behind 1,581", x, () -> x.feed(0, 0, 0, 0, 0), -1);
        Check.due("none came", x.end(1582), -1);
        x.end(1580);
        Check.due("feed behind 1,580", x.feed(blanks, blanks, blanks, blanks, blanks), 1600);
        Check.due("valley() of blanks alone", x.valley(), 0);
        Check.due("feed to a tape that is empty again", x.feed(blanks, blanks, blanks, blanks, blanks), 20);
    }

    private static void end() {
        Check.of("P3", "The TAPE has its first n bytes alone: n");
        BalloonGrocers x = new BalloonGrocers();
        Check.due("end(0) of nothing", x.end(0), 0);
        Check.tell(x, SIZES + "!");
        Check.due("end(47), all of it", x.end(47), 47);
        Check.due("end(46)", x.end(46), 46);
        Check.due("count(10)", x.count(10), 46);
        Check.due("valley() of the first 46", x.valley(), 1);
        Check.tell(x, SIZES + "!");
        Check.due("end(0)", x.end(0), 0);
        Check.due("count(10)", x.count(10), 0);
        // A number, a word and a blank that were cut: what stood behind is no part of them.
        String[] whole = {"valley wide 44", "valley wide", "valley wide 4 deep", "valley;"};
        int[] cut = {13, 10, 14, 6};
        int[] place = {13, 7, 14, 6};
        for (int i = 0; i < whole.length; i++) {
            Check.tell(x, whole[i]);
            Check.due("end", x.end(cut[i]), cut[i]);
            Check.due("valley() of " + whole[i] + " to " + cut[i], x.valley(), -4);
            Check.due("fault(0)", x.fault(0), 1);
            Check.due("fault(1)", x.fault(1), place[i]);
        }
        Check.tell(x, SIZES);
        Check.due("valley() of what came behind", x.valley(), 1);
    }

    private static void endRefused() {
        Check.of("P3", "NONE, and nothing happens, if it has not so many, or n is below 0");
        BalloonGrocers x = new BalloonGrocers();
        Check.due("end(1) of nothing", x.end(1), -1);
        Check.due("end(-1) of nothing", x.end(-1), -1);
        Check.tell(x, SIZES);
        int[] none = {47, 60, -1, Integer.MAX_VALUE, Integer.MIN_VALUE};
        for (int n : none) {
            Check.refused("end(" + n + ")", x, () -> x.end(n), -1);
        }
        Check.due("valley()", x.valley(), 1);
    }

    private static void valley() {
        Check.of("P4", "The TAPE (empty then) is the VALLEY (in place of another): how many LINES");
        BalloonGrocers x = Check.told(SIZES + "wind 1 from 0 east;sells within 2 price 4;fair at 0 0 from 0 to 5;"
            + "shop at 0 0 1 sand 1 gas 1 goods 1;door at 1 0 wants 1;plan 0 5 rises;");
        x.plan(0, 1, 1);
        Check.due("count(10)", x.count(10), 0);
        Check.due("count(9)", x.count(9), 7);
        Check.due("money()", x.money(), 3);
        Check.tell(x, SIZES + SHOP);
        Check.due("valley()", x.valley(), 2);
        Check.same("all of it", Check.allOf(x), Check.allOf(Check.told(SIZES + SHOP)));
        Check.due("count(10)", x.count(10), 0);
        Check.due("count(11)", x.count(11), 0);
        manyValleys();
    }

    /** One valley behind the other on one object, as each is on a new one. */
    private static void manyValleys() {
        String full = "valley wide 8 deep 8 layers 5 hours 9 cools 3;sells within 2 price 9;" + "wind 1 from 0 east;".repeat(17)
            + "wind 4 from 8 west;wind 2 from 1 south;wind 3 from 0 north;shop at 1 1 1 sand 9 gas 9 goods 9;shop at 2 2 2 sand 1 gas 1 goods 1;"
            + "shop at 3 3 3 sand 1 gas 1 goods 1;shop at 4 4 4 sand 1 gas 1 goods 1;door at 0 0 wants 1;door at 1 0 wants 1;"
            + "door at 2 1 wants 1;door at 3 0 wants 1;door at 4 0 wants 1;fair at 2 1 from 1 to 8;plan 0 0 rises;plan 3 8 sinks;";
        String small = "valley wide 2 deep 2 layers 2 hours 3 cools 0;";
        String[] texts = {full, full, small, "", full, small + "shop at 1 1 1 sand 1 gas 1 goods 1;", "", small, full, full, "", "",
            small + "wind 1 from 2 east;shop at 0 0 0 sand 2 gas 2 goods 0;fair at 0 0 from 0 to 2;", SIZES + SHOP, full};
        BalloonGrocers x = new BalloonGrocers();
        for (int i = 0; i < texts.length; i++) {
            BalloonGrocers due = new BalloonGrocers();
            Check.tell(x, texts[i]);
            Check.tell(due, texts[i]);
            Check.due("valley() of text " + i, x.valley(), due.valley());
            Check.same("all of text " + i, Check.allOf(x) + freeOf(x), Check.allOf(due) + freeOf(due));
            x.plan(0, 0, 1);
            x.load(0, 3, 5);
            x.turn(1, 2, 4);
            freeOf(x);
        }
    }

    private static String freeOf(BalloonGrocers x) {
        StringBuilder all = new StringBuilder();
        for (int cell = 0; cell < x.count(0) * x.count(1); cell++) {
            int column = cell % x.count(0);
            int row = cell / x.count(0);
            all.append(' ').append(x.soonest(0, column, row, 1)).append(x.least(0, column, row, 0)).append(x.way(0, column, row, 1, 1));
        }
        return all.append(x.ways(0, 2)).append(x.tour(0, 0)).append(x.doors(0, 9, 1)).append(x.aloft(0)).append(x.meet(0, 1)).toString();
    }

    private static void valleyOfNothing() {
        Check.of("P4", "(0: there is none then)");
        BalloonGrocers x = Check.told(SIZES + SHOP);
        x.plan(0, 0, 1);
        Check.due("valley() of nothing", x.valley(), 0);
        Check.same("all of it", Check.allOf(x), Check.allOf(new BalloonGrocers()));
        Check.due("money()", x.money(), -2);
        Check.due("shop(0, 0)", x.shop(0, 0), -2);
        Check.tell(x, " \n");
        Check.due("valley() of blanks", x.valley(), 0);
        Check.due("undo()", x.undo(), -2);
    }

    private static void valleyRefused() {
        Check.of("P4", "-4: a FAULT (all stays)");
        BalloonGrocers x = Check.told(SIZES + "wind 1 from 0 east;shop at 0 0 1 sand 1 gas 1 goods 1;door at 1 0 wants 1;");
        x.keep(0);
        x.plan(0, 1, 2);
        x.turn(1, 0, 0);
        x.load(0, 5, 3);
        Check.put(x, 1, 0, 0, 0);
        String before = Check.stateOf(x);
        int money = x.money();
        int soonest = x.soonest(0, 2, 0, 1);
        String[] texts = {"valley wide 2 deep 2 layers 2 hours 1 cools 0;shop at 1 1 1 sand 9 gas 9 goods 9;door at 0 0 wants 9;x", ";"};
        for (String text : texts) {
            Check.tell(x, text);
            Check.due("valley()", x.valley(), -4);
            Check.due("money()", x.money(), money);
            Check.due("soonest(0, 2, 0, 1)", x.soonest(0, 2, 0, 1), soonest);
            Check.same("all of it", Check.stateOf(x), before);
        }
        Check.due("undo()", x.undo(), 0);
        Check.due("back(0)", x.back(0), 0);
        Check.due("wind(1, 0) of the image", x.wind(1, 0), 2);
        // Texts told one behind the other, as the shared runs do it: the tape is empty behind a fault too.
        Check.due("count(10)", x.count(10), 0);
        Check.tell(x, SIZES);
        Check.due("valley() of the next text", x.valley(), 1);
    }

    private static void fault() {
        Check.of("P5", "Of the latest valley(), what 0: its FAULT, 0 without, 1: its place (NONE without)");
        BalloonGrocers x = new BalloonGrocers();
        String[] texts = {SIZES, "valley wide 9", "", "valley deep", SIZES + SHOP.repeat(5), " ", "?"};
        int[] faults = {0, 2, 0, 1, 3, 0, 1};
        int[] places = {-1, 12, -1, 7, 186, -1, 0};
        for (int i = 0; i < texts.length; i++) {
            Check.tell(x, texts[i]);
            x.valley();
            Check.due("fault(0) of text " + i, x.fault(0), faults[i]);
            Check.due("fault(1) of text " + i, x.fault(1), places[i]);
        }
        x.keep(0);
        x.back(0);
        Check.due("fault(0) behind other calls", x.fault(0), 1);
        Check.due("fault(1) behind other calls", x.fault(1), 0);
    }

    private static void faultOfNone() {
        Check.of("P5", "NONE for another what");
        BalloonGrocers x = new BalloonGrocers();
        Check.tell(x, "valley wide 9");
        x.valley();
        int[] none = {-1, 2, 3, Integer.MAX_VALUE, Integer.MIN_VALUE, 256, 257};
        for (int what : none) {
            Check.due("fault(" + what + ")", x.fault(what), -1);
            Check.due("fault(" + what + ") ahead of any", new BalloonGrocers().fault(what), -1);
        }
        Check.of("P5", "and ahead of any (what 1)");
        Check.due("fault(0) ahead of any", new BalloonGrocers().fault(0), 0);
        Check.due("fault(1) ahead of any", new BalloonGrocers().fault(1), -1);
    }
}
