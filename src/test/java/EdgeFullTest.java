/** All that can be full is full: the largest valley with all its shops, doors, winds and hours, asked at its last numbers. */
public final class EdgeFullTest {
    private static final int ALL_HOURS = (1 << 24) - 1;

    public static void main(String[] args) {
        plan();
        free();
        drops();
        worth();
        tape();
        Check.finish("EdgeFullTest");
    }

    /** Still; four shops in the corner at the top over the last door, which nine of their goods go to. */
    private static BalloonGrocers full(int layer, int stock) {
        StringBuilder t = new StringBuilder("valley wide 8 deep 8 layers 5 hours 24 cools 24;sells within 4 price 99;");
        for (int i = 0; i < 20; i++) {
            t.append("wind ").append(1 + i % 4).append(" from ").append(4 + i).append(" still;");
        }
        for (int i = 0; i < 4; i++) {
            t.append("shop at 7 7 ").append(layer).append(" sand ").append(stock).append(" gas ").append(stock).append(" goods 9;");
        }
        t.append("door at 0 0 wants 9;door at 7 0 wants 9;door at 0 7 wants 9;door at 6 7 wants 9;door at 7 7 wants 9;");
        return Check.told(t.append("fair at 7 7 from 0 to 23;plan 3 23 sinks;").toString());
    }

    /** Each hour shop by shop: four sell in hour 0, four in hour 1, the first in hour 2, each for 95; they cool in the last hour. */
    private static void plan() {
        BalloonGrocers x = full(4, 0);
        Check.of("P6", "WIND of a LAYER in an HOUR");
        Check.due("wind(4, 23)", x.wind(4, 23), 0);
        Check.of("P7", "How many HOURS a LAYER's WIND is one");
        Check.due("often(4, 0)", x.often(4, 0), 24);
        Check.due("often(4, 4)", x.often(4, 4), 0);
        Check.of("P8", "Of a SHOP at first");
        Check.due("shop(3, 5)", x.shop(3, 5), 9);
        Check.of("P9", "Of a DOOR");
        Check.due("door(4, 2)", x.door(4, 2), 9);
        Check.due("door(4, 3)", x.door(4, 3), 0);
        Check.due("door(3, 3)", x.door(3, 3), 9);
        Check.of("P10", "The ACT of a SHOP in an HOUR by the PLAN");
        Check.due("act(3, 23)", x.act(3, 23), 2);
        Check.of("P14", "Behind an HOUR by the PLAN");
        int[] due = {7, 7, 3, 0, 0, 7, 190};
        for (int what = 0; what < 7; what++) {
            Check.due("where(3, 23, " + what + ")", x.where(3, 23, what), due[what]);
        }
        Check.of("P15", "Why a SHOP does not do its ACT in an HOUR");
        Check.due("why(3, 23)", x.why(3, 23), 2);
        Check.of("P16", "How many ACTS of a SHOP are in vain");
        Check.due("vain(3)", x.vain(3), 1);
        Check.due("vain(2)", x.vain(2), 0);
        Check.of("P17", "Whether the WIND carries a SHOP in an HOUR");
        Check.due("blown(3, 23)", x.blown(3, 23), 0);
        Check.of("P18", "SALES of a SHOP");
        Check.due("sales(3, 4)", x.sales(3, 4), 2);
        Check.due("sales(0, -1)", x.sales(0, -1), 3);
        Check.of("P19", "The HOUR of SALE i (from 0) of a SHOP");
        Check.due("sold(0, 2)", x.sold(0, 2), 2);
        Check.due("sold(3, 2)", x.sold(3, 2), -1);
        Check.of("P20", "Money of all at the end");
        Check.due("money()", x.money(), 9 * 95);
        Check.of("P21", "The SHOP that has most at the end");
        Check.due("richest()", x.richest(), 0);
        Check.of("P22", "HOURS (bits) at whose end two SHOPS are in one CELL");
        Check.due("meets(3, 2)", x.meets(3, 2), ALL_HOURS);
        Check.of("P23", "HOURS (bits) at whose end a SHOP is over (or at) a column");
        Check.due("over(3, 7, 7)", x.over(3, 7, 7), ALL_HOURS);
        Check.due("over(3, 0, 0)", x.over(3, 0, 0), 0);
        Check.of("P24", "HOURS (bits) at whose end it is on the ground");
        Check.due("grounded(3)", x.grounded(3), 0);
    }

    private static void free() {
        BalloonGrocers x = full(0, 9);
        Check.of("P25", "the least sand with which a SHOP can be in a CELL at the end of some HOUR");
        Check.due("least(3, 7, 7, 4)", x.least(3, 7, 7, 4), 4);
        Check.due("least(3, 7, 6, 4)", x.least(3, 7, 6, 4), -1);
        Check.of("P26", "The first HOUR at whose end it can be there, whatever sand");
        Check.due("soonest(3, 7, 7, 4)", x.soonest(3, 7, 7, 4), 3);
        Check.due("soonest(3, 7, 6, 4)", x.soonest(3, 7, 6, 4), -1);
        Check.of("P27", "The ACT in an HOUR by the first row of ACTS");
        for (int hour = 0; hour < 24; hour++) {
            Check.due("way(3, 7, 7, 4, " + hour + ")", x.way(3, 7, 7, 4, hour), hour < 4 ? 1 : -1);
            Check.due("way(3, 6, 7, 4, " + hour + ")", x.way(3, 6, 7, 4, hour), -1);
        }
        Check.of("P28", "In how many CELLS it can be at the end of an HOUR");
        Check.due("spots(3, 22)", x.spots(3, 22), 5);
        Check.due("spots(3, 23): it has cooled", x.spots(3, 23), 4);
        Check.of("P29", "Columns over which it can be at the end of an HOUR");
        Check.due("columns(3, 23)", x.columns(3, 23), 1);
        Check.of("P30", "By how many rows of ACTS (none in vain) up to an HOUR");
        Check.due("ways(3, 0)", x.ways(3, 0), 2);
        Check.due("ways(3, 23) are more than an int holds", x.ways(3, 23) > Integer.MAX_VALUE ? 1 : 0, 1);
        Check.of("P31", "the least sand with which it can come down to all DOORS of a set (bits)");
        Check.due("tour(3, 16)", x.tour(3, 16), 0);
        Check.due("tour(3, 31)", x.tour(3, 31), -1);
        Check.of("P32", "The HOUR at whose end a TOUR can be over first");
        Check.due("done(3, 16)", x.done(3, 16), -1);
        Check.due("done(3, 31)", x.done(3, 31), -1);
        Check.of("P33", "The most DOORS that it can come down to");
        Check.due("doors(3, 9, 0)", x.doors(3, 9, 0), 1);
        Check.due("doors(3, 9, 1)", x.doors(3, 9, 1), 16);
        Check.of("P34", "the most HOURS of its time at whose end a SHOP can be over it");
        Check.due("fair(3)", x.fair(3), 24);
        Check.of("P35", "The most HOURS at whose end it can be above the ground");
        Check.due("aloft(3)", x.aloft(3), 24);
        Check.of("P36", "The last HOUR at whose end it can be above the ground");
        Check.due("lasts(3)", x.lasts(3), 23);
        Check.of("P37", "The first HOUR at whose end two SHOPS can be in one CELL");
        Check.due("meet(3, 2)", x.meet(3, 2), 0);
        Check.of("P38", "the first HOUR at whose end they can be in CELLS");
        Check.due("rope(3, 2)", x.rope(3, 2), 0);
        BalloonGrocers apart = Check.told("valley wide 8 deep 8 layers 5 hours 24 cools 0;shop at 0 0 0 sand 9 gas 9 goods 0;shop at 7 7 4 sand 9 gas 9 goods 0;");
        Check.due("meet of two that never can", apart.meet(0, 1), -1);
        Check.due("rope of two that never can", apart.rope(0, 1), -1);
        Check.due("lasts(1)", apart.lasts(1), 23);
        Check.due("aloft(1)", apart.aloft(1), 24);
    }

    private static void drops() {
        BalloonGrocers x = full(4, 0);
        Check.of("P39", "DROP (IV) of what a SHOP lets fall at the end of an HOUR by the PLAN");
        Check.due("lands(3, 19)", x.lands(3, 19), 707);
        Check.due("lands(3, 20)", x.lands(3, 20), -1);
        Check.due("lands(3, 23)", x.lands(3, 23), -1);
        Check.of("P40", "how many pairs of a SHOP and an HOUR there are");
        Check.due("who(7, 7)", x.who(7, 7), 80);
        Check.due("who(0, 0)", x.who(0, 0), 0);
        Check.of("P41", "The first of them");
        Check.due("first(7, 7)", x.first(7, 7), 0);
        Check.due("first(0, 0)", x.first(0, 0), -1);
        Check.of("P42", "SHOPS, as bits, of which there are such");
        Check.due("suspects(7, 7)", x.suspects(7, 7), 15);
        Check.due("suspects(0, 0)", x.suspects(0, 0), 0);
        Check.of("P43", "at most to the last");
        Check.due("drift(7, 7, 4, 23, 24)", x.drift(7, 7, 4, 23, 24), 707);
        Check.of("P44", "from which it drifts to one so, the least");
        Check.due("whence(7, 7, 4, 23, 24)", x.whence(7, 7, 4, 23, 24), 707);
        Check.due("whence(0, 0, 4, 0, 24)", x.whence(0, 0, 4, 0, 24), 0);
        x.turn(4, 23, 3);
        Check.due("whence(7, 0, 4, 23, 24)", x.whence(7, 0, 4, 23, 24), -1);
        Check.of("P45", "LAYERS by whose WIND all is so, as bits");
        Check.put(x, 3, 0, 23, 7, 6, 7, 7);
        Check.due("smoke(3)", x.smoke(3), 16);
        Check.of("P46", "LAYERS of which all is so, as bits");
        Check.put(x, 3, 0, 23, 3);
        Check.due("kites(3)", x.kites(3), 16);
        Check.of("P47", "NONE: another one is as it is in all");
        Check.due("known(4): by the last hour", x.known(4), 24);
        Check.due("known(3)", x.known(3), -1);
        Check.of("P48", "What a SALE brings in a LAYER");
        Check.due("price(4)", x.price(4), 95);
    }

    private static void worth() {
        BalloonGrocers x = full(4, 0);
        Check.of("P49", "if a SHOP's ACT in an HOUR were another one");
        Check.due("worth(3, 23, 1)", x.worth(3, 23, 1), 0);
        Check.of("P50", "NONE: none brings more");
        Check.due("best()", x.best(), -1);
        Check.of("P51", "By how much more money");
        for (int what = 0; what <= 4; what++) {
            Check.due("other(" + what + ")", x.other(what), 0);
            Check.due("other(" + what + ") with nine sand and gas", full(4, 9).other(what), 0);
        }
        Check.of("P54", "where a SHOP is behind an HOUR by the PLAN");
        Check.due("gust(2000000000, 100, 3, 23)", x.gust(2000000000, 100, 3, 23), 773);
        Check.of("P55", "in how many a SHOP is over a column at the end");
        Check.due("chance(2000000000, 20, 100, 3, 7, 7)", x.chance(2000000000, 20, 100, 3, 7, 7), 20);
        Check.of("P56", "Money of all at the end by it");
        Check.due("takings(2000000000, 100)", x.takings(2000000000, 100), 855);
        Check.of("P52", "at first from now on: what it had");
        Check.due("load(3, 5, 0)", x.load(3, 5, 0), 9);
        Check.of("P53", "in that HOUR alone: what it was");
        Check.due("turn(4, 23, 4)", x.turn(4, 23, 4), 0);
        Check.due("where(3, 23, 0)", x.where(3, 23, 0), 6);
        Check.of("P58", "keeps the VALLEY, the PLAN and its changes: 0");
        for (int i = 0; i < 60; i++) {
            x.plan(i % 4, 23 - i % 24, 1);
        }
        Check.due("keep(2)", x.keep(2), 0);
        x.valley();
        Check.due("back(2)", x.back(2), 0);
        Check.due("count(11)", x.count(11), 60);
        Check.due("plan(3, 23, 2)", x.plan(3, 23, 2), -5);
        Check.due("changed(59, 1)", x.changed(59, 1), 12);
        Check.due("where(3, 23, 0)", x.where(3, 23, 0), 6);
    }

    /** 1,600 bytes of lines: as many as there is room for, and a fault in the last of them. */
    private static void tape() {
        Check.of("P4", "how many LINES");
        String sizes = "valley wide 2 deep 2 layers 2 hours 1 cools 0;";
        String line = "sells within 1 price 7;";
        StringBuilder t = new StringBuilder(sizes);
        int lines = 1;
        while (t.length() + line.length() <= 1600) {
            t.append(line);
            lines++;
        }
        while (t.length() < 1600) {
            t.append('\n');
        }
        BalloonGrocers x = Check.told(lines, t.toString());
        Check.due("count(9)", x.count(9), lines);
        Check.due("price(1)", x.price(1), 6);
        Check.of("P5", "Of the latest valley(), what 0: its FAULT, 0 without, 1: its place (NONE without)");
        t.setCharAt(1599, ';');
        Check.tell(x, t.toString());
        Check.due("valley()", x.valley(), -4);
        Check.due("fault(0)", x.fault(0), 1);
        Check.due("fault(1)", x.fault(1), 1599);
    }
}
