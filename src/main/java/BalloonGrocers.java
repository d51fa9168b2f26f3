/**
 * A valley of balloon grocers, read from a tape of bytes, with a plan by which
 * its shops fly and sell. DOC.md says what each public method promises.
 */
public final class BalloonGrocers {
    public static final int NONE = -1;

    private static final int NO_SUCH = -2;
    private static final int BELOW_ZERO = -3;
    private static final int FAULTY = -4;
    private static final int NO_CHANGE = -5;
    private static final int EMPTY = -6;
    private static final int NO_NUMBER = -7;
    private static final int UNLIKE = -8;
    private static final int NO_WORTH = -1000000;

    private static final int TAPE_BYTES = 1600;
    private static final int FEED_BYTES = 20;
    private static final int MOST_SIDE = 8;
    private static final int MOST_LAYERS = 5;
    private static final int MOST_HOURS = 24;
    private static final int MOST_SHOPS = 4;
    private static final int MOST_DOORS = 5;
    private static final int MOST_WIND_LINES = 20;
    private static final int MOST_CHANGES = 60;
    private static final int MOST_NUMBERS = 60;
    private static final int MOST_STOCK = 9;
    private static final int MOST_PRICE = 99;
    private static final int MOST_SEED = 2000000000;
    private static final int MOST_ODDS = 100;
    private static final int MOST_SEEDS = 20;
    private static final int FIRST_PRICE = 9;
    private static final int SLOTS = 4;
    private static final int WIDTHS = 4;
    private static final int IMAGES = 3;

    private static final int STILL = 0;
    private static final int NORTH = 1;
    private static final int EAST = 2;
    private static final int SOUTH = 3;
    private static final int WEST = 4;
    private static final int WINDS = 5;

    private static final int HANGS = 0;
    private static final int RISES = 1;
    private static final int SINKS = 2;
    private static final int ACTS = 3;

    /** What a shop has, by the numbers that the document gives it. */
    private static final int X = 0;
    private static final int Y = 1;
    private static final int LAYER = 2;
    private static final int SAND = 3;
    private static final int GAS = 4;
    private static final int GOODS = 5;
    private static final int MONEY = 6;
    private static final int SHOP_FACTS = 6;
    private static final int LOG_FACTS = 7;

    private static final int WANTS = 2;
    private static final int LEFT = 3;
    private static final int DOOR_FACTS = 3;
    private static final int CHANGE_FACTS = 4;

    private final byte[] tape = new byte[TAPE_BYTES];
    private final Reader reader = new Reader();
    private final Voyage planned = new Voyage();
    private final Voyage trial = new Voyage();
    private final Valley[] images = new Valley[IMAGES];
    private final boolean[] kept = new boolean[IMAGES];
    private final Row[] rows = new Row[SLOTS];
    private Valley now = new Valley();
    private Valley spare = new Valley();
    private Roamer roamer;
    private int tapeLength;
    private boolean plannedStands;
    /** Counts what changes winds and shops, so that old answers are known as old. */
    private int era = 1;

    /** The valley with its plan and the changes of it: all that an image keeps. */
    private static final class Valley {
        int lines;
        int wide;
        int deep;
        int layers;
        int hours;
        int cools;
        int reach;
        int fee;
        int shopCount;
        int doorCount;
        int fairColumn = NONE;
        int fairFrom;
        int fairTo;
        int changeCount;
        final int[] winds = new int[MOST_LAYERS * MOST_HOURS];
        final int[] shopFacts = new int[MOST_SHOPS * SHOP_FACTS];
        final int[] doorFacts = new int[MOST_DOORS * DOOR_FACTS];
        final int[] acts = new int[MOST_SHOPS * MOST_HOURS];
        final int[] changes = new int[MOST_CHANGES * CHANGE_FACTS];

        boolean stands() {
            return lines > 0;
        }

        boolean hasShop(int shop) {
            return shop >= 0 && shop < shopCount;
        }

        boolean hasTwoShops(int shop, int twin) {
            return hasShop(shop) && hasShop(twin) && shop != twin;
        }

        boolean hasDoor(int door) {
            return door >= 0 && door < doorCount;
        }

        boolean hasDoors(int set) {
            return set >= 0 && set < 1 << doorCount;
        }

        boolean hasLayer(int layer) {
            return layer >= 0 && layer < layers;
        }

        boolean hasHour(int hour) {
            return hour >= 0 && hour < hours;
        }

        boolean hasColumn(int x, int y) {
            return x >= 0 && x < wide && y >= 0 && y < deep;
        }

        int windAt(int layer, int hour) {
            return winds[layer * MOST_HOURS + hour];
        }

        int shopFact(int shop, int what) {
            return shopFacts[shop * SHOP_FACTS + what];
        }

        int doorFact(int door, int what) {
            return doorFacts[door * DOOR_FACTS + what];
        }

        int actAt(int shop, int hour) {
            return acts[shop * MOST_HOURS + hour];
        }

        void setAct(int shop, int hour, int act) {
            acts[shop * MOST_HOURS + hour] = act;
        }

        int changeFact(int i, int what) {
            return changes[i * CHANGE_FACTS + what];
        }

        int doorAt(int column) {
            for (int door = 0; door < doorCount; door++) {
                if (columnOf(doorFact(door, X), doorFact(door, Y)) == column) {
                    return door;
                }
            }
            return NONE;
        }

        int shopColumn(int shop) {
            return columnOf(shopFact(shop, X), shopFact(shop, Y));
        }

        boolean coolsIn(int hour) {
            return cools > 0 && (hour + 1) % cools == 0;
        }

        /** How many times the valley has cooled ahead of an hour. */
        int coolings(int hour) {
            return cools > 0 ? hour / cools : 0;
        }

        int saleBrings(int layer) {
            return Math.max(0, fee - layer);
        }

        /** The column to which a wind carries, the same one at the valley's end. */
        int carried(int column, int wind) {
            int x = xOf(column) + (wind == EAST ? 1 : 0) - (wind == WEST ? 1 : 0);
            int y = yOf(column) + (wind == SOUTH ? 1 : 0) - (wind == NORTH ? 1 : 0);
            return hasColumn(x, y) ? columnOf(x, y) : column;
        }

        int change(int shop, int hour, int act) {
            int was = actAt(shop, hour);
            int at = changeCount * CHANGE_FACTS;
            changes[at] = shop;
            changes[at + 1] = hour;
            changes[at + 2] = act;
            changes[at + 3] = was;
            changeCount++;
            setAct(shop, hour, act);
            return was;
        }

        void takeBack() {
            changeCount--;
            setAct(changeFact(changeCount, 0), changeFact(changeCount, 1), changeFact(changeCount, 3));
        }

        void clear() {
            lines = 0;
            wide = 0;
            deep = 0;
            layers = 0;
            hours = 0;
            cools = 0;
            reach = 0;
            fee = 0;
            shopCount = 0;
            doorCount = 0;
            fairColumn = NONE;
            fairFrom = 0;
            fairTo = 0;
            changeCount = 0;
            for (int i = 0; i < winds.length; i++) {
                winds[i] = NONE;
            }
            for (int i = 0; i < acts.length; i++) {
                acts[i] = HANGS;
            }
        }

        /** A wind blows till the next one that is told; still ahead of all. */
        void spreadWinds() {
            for (int layer = 0; layer < MOST_LAYERS; layer++) {
                int wind = STILL;
                for (int hour = 0; hour < MOST_HOURS; hour++) {
                    int at = layer * MOST_HOURS + hour;
                    if (winds[at] == NONE) {
                        winds[at] = wind;
                    }
                    wind = winds[at];
                }
            }
        }

        void copyFrom(Valley from) {
            lines = from.lines;
            wide = from.wide;
            deep = from.deep;
            layers = from.layers;
            hours = from.hours;
            cools = from.cools;
            reach = from.reach;
            fee = from.fee;
            shopCount = from.shopCount;
            doorCount = from.doorCount;
            fairColumn = from.fairColumn;
            fairFrom = from.fairFrom;
            fairTo = from.fairTo;
            changeCount = from.changeCount;
            System.arraycopy(from.winds, 0, winds, 0, winds.length);
            System.arraycopy(from.shopFacts, 0, shopFacts, 0, shopFacts.length);
            System.arraycopy(from.doorFacts, 0, doorFacts, 0, doorFacts.length);
            System.arraycopy(from.acts, 0, acts, 0, acts.length);
            System.arraycopy(from.changes, 0, changes, 0, changes.length);
        }
    }

    /** Reads a valley's text; after its first fault it takes nothing more. */
    private static final class Reader {
        private static final int AT_END = 0;
        private static final int WORD = 1;
        private static final int NUMBER = 2;
        private static final int SIGN = 3;
        private static final int STRANGE = 4;
        private static final int WRONG_TOKEN = 1;
        private static final int WRONG_NUMBER = 2;
        private static final int TOO_MANY = 3;
        /** Above every bound, and far from where ints end. */
        private static final int HUGE = 1000000;

        int faultKind;
        int faultPlace = NONE;
        private byte[] text;
        private int length;
        private int next;
        private int kind;
        private int start;
        private int value;
        private int windLines;
        private Valley into;

        /** Whether the text is a valley without a fault. */
        boolean reads(byte[] bytes, int count, Valley valley) {
            text = bytes;
            length = Math.min(count, bytes.length);
            into = valley;
            into.clear();
            faultKind = 0;
            faultPlace = NONE;
            next = 0;
            windLines = 0;
            advance();
            for (int line = 0; line < length && kind != AT_END && faultKind == 0; line++) {
                readLine();
                takeSign();
                into.lines++;
            }
            into.spreadWinds();
            return faultKind == 0;
        }

        private void readLine() {
            if (into.lines == 0) {
                readSizes();
            } else if (isWord("sells")) {
                readSells();
            } else if (isWord("wind")) {
                readWind();
            } else if (isWord("shop")) {
                readShop();
            } else if (isWord("door")) {
                readDoor();
            } else if (isWord("fair")) {
                readFair();
            } else if (isWord("plan")) {
                readPlan();
            } else {
                fail(WRONG_TOKEN, start);
            }
        }

        private void readSizes() {
            takeWord("valley");
            takeWord("wide");
            into.wide = takeNumber(2, MOST_SIDE);
            takeWord("deep");
            into.deep = takeNumber(2, MOST_SIDE);
            takeWord("layers");
            into.layers = takeNumber(2, MOST_LAYERS);
            takeWord("hours");
            into.hours = takeNumber(1, MOST_HOURS);
            takeWord("cools");
            into.cools = takeNumber(0, MOST_HOURS);
            into.fee = FIRST_PRICE;
        }

        private void readSells() {
            advance();
            takeWord("within");
            into.reach = takeNumber(0, into.layers - 1);
            takeWord("price");
            into.fee = takeNumber(0, MOST_PRICE);
        }

        private void readWind() {
            if (windLines >= MOST_WIND_LINES) {
                fail(TOO_MANY, start);
            }
            windLines++;
            advance();
            int layer = takeNumber(1, into.layers - 1);
            takeWord("from");
            int hour = takeNumber(0, into.hours - 1);
            int wind = takeWind();
            if (faultKind == 0) {
                into.winds[layer * MOST_HOURS + hour] = wind;
            }
        }

        private int takeWind() {
            int wind = windWord();
            if (wind == NONE) {
                fail(WRONG_TOKEN, start);
            } else {
                advance();
            }
            return wind;
        }

        private int windWord() {
            if (isWord("still")) {
                return STILL;
            }
            if (isWord("north")) {
                return NORTH;
            }
            if (isWord("east")) {
                return EAST;
            }
            if (isWord("south")) {
                return SOUTH;
            }
            return isWord("west") ? WEST : NONE;
        }

        private void readShop() {
            if (into.shopCount >= MOST_SHOPS) {
                fail(TOO_MANY, start);
            }
            advance();
            takeWord("at");
            int x = takeNumber(0, into.wide - 1);
            int y = takeNumber(0, into.deep - 1);
            int layer = takeNumber(0, into.layers - 1);
            takeWord("sand");
            int sand = takeNumber(0, MOST_STOCK);
            takeWord("gas");
            int gas = takeNumber(0, MOST_STOCK);
            takeWord("goods");
            int goods = takeNumber(0, MOST_STOCK);
            if (faultKind == 0) {
                int at = into.shopCount * SHOP_FACTS;
                into.shopFacts[at + X] = x;
                into.shopFacts[at + Y] = y;
                into.shopFacts[at + LAYER] = layer;
                into.shopFacts[at + SAND] = sand;
                into.shopFacts[at + GAS] = gas;
                into.shopFacts[at + GOODS] = goods;
                into.shopCount++;
            }
        }

        private void readDoor() {
            if (into.doorCount >= MOST_DOORS) {
                fail(TOO_MANY, start);
            }
            advance();
            takeWord("at");
            int x = takeNumber(0, into.wide - 1);
            int yPlace = start;
            int y = takeNumber(0, into.deep - 1);
            if (into.doorAt(columnOf(x, y)) != NONE) {
                fail(WRONG_NUMBER, yPlace);
            }
            takeWord("wants");
            int wants = takeNumber(0, MOST_STOCK);
            if (faultKind == 0) {
                int at = into.doorCount * DOOR_FACTS;
                into.doorFacts[at + X] = x;
                into.doorFacts[at + Y] = y;
                into.doorFacts[at + WANTS] = wants;
                into.doorCount++;
            }
        }

        private void readFair() {
            advance();
            takeWord("at");
            int x = takeNumber(0, into.wide - 1);
            int y = takeNumber(0, into.deep - 1);
            takeWord("from");
            int from = takeNumber(0, into.hours - 1);
            takeWord("to");
            int to = takeNumber(from, into.hours - 1);
            into.fairColumn = columnOf(x, y);
            into.fairFrom = from;
            into.fairTo = to;
        }

        private void readPlan() {
            advance();
            int shop = takeNumber(0, into.shopCount - 1);
            int hour = takeNumber(0, into.hours - 1);
            int act = isWord("rises") ? RISES : SINKS;
            takeWord(act == RISES ? "rises" : "sinks");
            if (faultKind == 0) {
                into.setAct(shop, hour, act);
            }
        }

        private void takeWord(String word) {
            if (isWord(word)) {
                advance();
            } else {
                fail(WRONG_TOKEN, start);
            }
        }

        private void takeSign() {
            if (kind == SIGN) {
                advance();
            } else {
                fail(WRONG_TOKEN, start);
            }
        }

        /** The number that stands here; 0 if there is a fault. */
        private int takeNumber(int least, int most) {
            int number = value;
            if (kind != NUMBER) {
                fail(WRONG_TOKEN, start);
            } else if (number < least || number > most) {
                fail(WRONG_NUMBER, start);
            } else {
                advance();
            }
            return faultKind == 0 ? number : 0;
        }

        private void fail(int fault, int place) {
            if (faultKind == 0) {
                faultKind = fault;
                faultPlace = place;
            }
        }

        private boolean isWord(String word) {
            if (kind != WORD || next - start != word.length()) {
                return false;
            }
            for (int i = 0; i < word.length(); i++) {
                if (text[start + i] != word.charAt(i)) {
                    return false;
                }
            }
            return true;
        }

        private void advance() {
            while (next < length && (text[next] == ' ' || text[next] == '\n')) {
                next++;
            }
            start = next;
            if (next >= length) {
                kind = AT_END;
            } else if (isLetter(text[next])) {
                kind = WORD;
                while (next < length && isLetter(text[next])) {
                    next++;
                }
            } else if (isDigit(text[next])) {
                kind = NUMBER;
                value = 0;
                while (next < length && isDigit(text[next])) {
                    value = Math.min(HUGE, value * 10 + text[next] - '0');
                    next++;
                }
            } else {
                kind = text[next] == ';' ? SIGN : STRANGE;
                next++;
            }
        }

        private static boolean isLetter(byte sign) {
            return sign >= 'a' && sign <= 'z';
        }

        private static boolean isDigit(byte sign) {
            return sign >= '0' && sign <= '9';
        }
    }

    /** All shops fly by the plan; what comes of it stands in a log, hour by hour. */
    private static final class Voyage {
        private static final int HOUR_FACTS = MOST_SHOPS * LOG_FACTS;
        private static final int NO_SAND = 1;
        private static final int NO_GAS = 2;
        private static final int AT_TOP = 3;
        private static final int ON_GROUND = 4;

        /** Page 0 tells the shops at first, page h + 1 behind hour h; wants likewise. */
        private final int[] log = new int[(MOST_HOURS + 1) * HOUR_FACTS];
        private final int[] wants = new int[(MOST_HOURS + 1) * MOST_DOORS];
        private final int[] reasons = new int[MOST_SHOPS * MOST_HOURS];
        private final boolean[] carries = new boolean[MOST_SHOPS * MOST_HOURS];
        private final int[] saleDoors = new int[MOST_SHOPS * MOST_HOURS];
        private final boolean[] gusts = new boolean[MOST_LAYERS];
        private Valley valley;
        private long draws;
        private int odds;

        /** Puts all as it is at first; odds 0: there are no gusts. */
        void begin(Valley over, int seed, int gustOdds) {
            draws = seed;
            odds = gustOdds;
            valley = over;
            for (int shop = 0; shop < valley.shopCount; shop++) {
                for (int what = 0; what < SHOP_FACTS; what++) {
                    log[pageOf(shop, 0) + what] = valley.shopFact(shop, what);
                }
                log[pageOf(shop, 0) + MONEY] = 0;
            }
            for (int door = 0; door < valley.doorCount; door++) {
                wants[door] = valley.doorFact(door, WANTS);
            }
        }

        /** Puts all as it was in another voyage, without gusts, ahead of an hour. */
        void beginBehind(Valley over, Voyage past, int hour) {
            odds = 0;
            valley = over;
            System.arraycopy(past.log, hour * HOUR_FACTS, log, hour * HOUR_FACTS, HOUR_FACTS);
            System.arraycopy(past.wants, hour * MOST_DOORS, wants, hour * MOST_DOORS, MOST_DOORS);
        }

        void flyFrom(int start) {
            for (int hour = start; hour < valley.hours; hour++) {
                int page = hour * HOUR_FACTS;
                System.arraycopy(log, page, log, page + HOUR_FACTS, HOUR_FACTS);
                int list = hour * MOST_DOORS;
                System.arraycopy(wants, list, wants, list + MOST_DOORS, MOST_DOORS);
                drawGusts();
                for (int shop = 0; shop < valley.shopCount; shop++) {
                    flyHour(shop, hour);
                }
            }
        }

        private void drawGusts() {
            for (int layer = 1; layer < valley.layers; layer++) {
                if (odds > 0) {
                    draws = (1103515245L * draws + 12345L) & 2147483647L;
                }
                gusts[layer] = draws / 65536L % 100L < odds;
            }
        }

        private void flyHour(int shop, int hour) {
            int at = pageOf(shop, hour + 1);
            int mark = shop * MOST_HOURS + hour;
            int act = valley.actAt(shop, hour);
            reasons[mark] = reasonAgainst(act, at);
            if (reasons[mark] == 0) {
                doAct(act, at);
            }
            carries[mark] = carry(hour, at);
            if (valley.coolsIn(hour) && log[at + LAYER] > 0) {
                log[at + LAYER]--;
            }
            saleDoors[mark] = sell(hour, at);
        }

        private int reasonAgainst(int act, int at) {
            if (act == RISES) {
                if (log[at + LAYER] >= valley.layers - 1) {
                    return AT_TOP;
                }
                return log[at + SAND] > 0 ? 0 : NO_SAND;
            }
            if (act == SINKS) {
                if (log[at + LAYER] <= 0) {
                    return ON_GROUND;
                }
                return log[at + GAS] > 0 ? 0 : NO_GAS;
            }
            return 0;
        }

        private void doAct(int act, int at) {
            if (act == RISES) {
                log[at + LAYER]++;
                log[at + SAND]--;
            } else if (act == SINKS) {
                log[at + LAYER]--;
                log[at + GAS]--;
            }
        }

        /** Whether the wind carries a shop; it is there then. */
        private boolean carry(int hour, int at) {
            int layer = log[at + LAYER];
            int wind = valley.windAt(layer, hour);
            int from = columnOf(log[at + X], log[at + Y]);
            int to = valley.carried(from, wind);
            if (gusts[layer]) {
                to = valley.carried(to, wind);
            }
            log[at + X] = xOf(to);
            log[at + Y] = yOf(to);
            return to != from;
        }

        /** The door of the sale in an hour, NONE without a sale. */
        private int sell(int hour, int at) {
            int layer = log[at + LAYER];
            int door = valley.doorAt(columnOf(log[at + X], log[at + Y]));
            if (door == NONE || layer > valley.reach || log[at + GOODS] <= 0) {
                return NONE;
            }
            int list = (hour + 1) * MOST_DOORS + door;
            if (wants[list] <= 0) {
                return NONE;
            }
            wants[list]--;
            log[at + GOODS]--;
            log[at + MONEY] += valley.saleBrings(layer);
            log[at + LAYER] = Math.min(layer + 1, valley.layers - 1);
            return door;
        }

        private int pageOf(int shop, int page) {
            return page * HOUR_FACTS + shop * LOG_FACTS;
        }

        int factBehind(int shop, int hour, int what) {
            return log[pageOf(shop, hour + 1) + what];
        }

        int columnBehind(int shop, int hour) {
            return columnOf(factBehind(shop, hour, X), factBehind(shop, hour, Y));
        }

        int factAtEnd(int shop, int what) {
            return factBehind(shop, valley.hours - 1, what);
        }

        int columnAtEnd(int shop) {
            return columnBehind(shop, valley.hours - 1);
        }

        int wantedAtEnd(int door) {
            return wants[valley.hours * MOST_DOORS + door];
        }

        int reasonAt(int shop, int hour) {
            return reasons[shop * MOST_HOURS + hour];
        }

        boolean isCarriedAt(int shop, int hour) {
            return carries[shop * MOST_HOURS + hour];
        }

        int saleDoorAt(int shop, int hour) {
            return saleDoors[shop * MOST_HOURS + hour];
        }

        int moneyOfAll() {
            int sum = 0;
            for (int shop = 0; shop < valley.shopCount; shop++) {
                sum += factAtEnd(shop, MONEY);
            }
            return sum;
        }
    }

    /** Sets of columns, a bit for each, and how winds carry them. */
    private static final class Board {
        private static final long FIRST_X = 0x0101010101010101L;
        private static final long LAST_X = FIRST_X << (MOST_SIDE - 1);

        private final long[] edges = new long[WINDS];
        private long inside;

        void fit(Valley valley) {
            inside = 0L;
            for (int wind = 0; wind < WINDS; wind++) {
                edges[wind] = 0L;
            }
            for (int column = 0; column < MOST_SIDE * MOST_SIDE; column++) {
                boolean within = valley.hasColumn(xOf(column), yOf(column));
                inside |= within ? bitOf(column) : 0L;
                for (int wind = 0; wind < WINDS && within; wind++) {
                    if (valley.carried(column, wind) == column) {
                        edges[wind] |= bitOf(column);
                    }
                }
            }
        }

        long carriedSet(long set, int wind) {
            long stays = set & edges[wind];
            return stays | shifted(set & ~stays, wind);
        }

        /** The columns that a wind carries into a set. */
        long sourcesOf(long set, int wind) {
            long came = shifted(set, reverseOf(wind)) & inside & ~edges[wind];
            return came | set & edges[wind];
        }

        private static int reverseOf(int wind) {
            return wind == STILL ? STILL : (wind + 1) % 4 + 1;
        }

        private static long shifted(long set, int wind) {
            switch (wind) {
                case NORTH:
                    return set >>> MOST_SIDE;
                case EAST:
                    return set << 1;
                case SOUTH:
                    return set << MOST_SIDE;
                case WEST:
                    return set >>> 1;
                default:
                    return set;
            }
        }

        /** The set with all columns of which x and y are no more than one apart. */
        static long widened(long set) {
            long broad = set | (set & ~LAST_X) << 1 | (set & ~FIRST_X) >>> 1;
            return broad | broad << MOST_SIDE | broad >>> MOST_SIDE;
        }
    }

    /** What one shop can do alone, kept as long as its era lasts. */
    private static final class Reach {
        private static final int NEVER = 99;
        private static final int AT_FIRST = -1;

        private final long[] cells = new long[MOST_HOURS * MOST_LAYERS * (MOST_STOCK + 1)];
        private final int[] tourSand = new int[1 << MOST_DOORS];
        private final int[] tourHour = new int[1 << MOST_DOORS];
        int cellsEra;
        int toursEra;

        private static int placeOf(int hour, int layer, int sand) {
            return (hour * MOST_LAYERS + layer) * (MOST_STOCK + 1) + sand;
        }

        void clearCells() {
            for (int i = 0; i < cells.length; i++) {
                cells[i] = 0L;
            }
        }

        void addCells(int hour, int layer, int sand, long set) {
            cells[placeOf(hour, layer, sand)] |= set;
        }

        long columnsAt(int hour, int layer) {
            long set = 0L;
            for (int sand = 0; sand <= MOST_STOCK; sand++) {
                set |= cells[placeOf(hour, layer, sand)];
            }
            return set;
        }

        /** The least sand with which it is in a cell behind an hour; NEVER if it can't. */
        int leastAt(int hour, int layer, long column) {
            for (int sand = 0; sand <= MOST_STOCK; sand++) {
                if ((cells[placeOf(hour, layer, sand)] & column) != 0L) {
                    return sand;
                }
            }
            return NEVER;
        }

        int leastOfAll(int hours, int layer, long column) {
            int sand = NEVER;
            for (int hour = 0; hour < hours; hour++) {
                sand = Math.min(sand, leastAt(hour, layer, column));
            }
            return sand == NEVER ? NONE : sand;
        }

        int soonestOf(int hours, int layer, long column) {
            for (int hour = 0; hour < hours; hour++) {
                if (leastAt(hour, layer, column) != NEVER) {
                    return hour;
                }
            }
            return NONE;
        }

        void clearTours() {
            for (int set = 0; set < tourSand.length; set++) {
                tourSand[set] = NEVER;
                tourHour[set] = NEVER;
            }
        }

        void addTour(int set, int sand, int hour) {
            tourSand[set] = Math.min(tourSand[set], sand);
            tourHour[set] = Math.min(tourHour[set], hour);
        }

        /** Who has been at more doors has been at fewer too. */
        void spreadTours() {
            for (int set = tourSand.length - 1; set >= 0; set--) {
                for (int door = 0; door < MOST_DOORS; door++) {
                    int less = set & ~(1 << door);
                    addTour(less, tourSand[set], tourHour[set]);
                }
            }
        }

        int sandOfTour(int set) {
            return tourSand[set] == NEVER ? NONE : tourSand[set];
        }

        int hourOfTour(int set) {
            return tourHour[set] == NEVER || tourHour[set] == AT_FIRST ? NONE : tourHour[set];
        }

        boolean canTour(int set, int sand) {
            return tourSand[set] <= sand;
        }
    }

    /**
     * Flies one shop by all acts at once. Its states are parted by sand spent,
     * gas spent, layer and a tag (what it has done on the way); each holds the
     * set of its columns, or, where rows of acts are counted, their number.
     */
    private static final class Roamer {
        private static final int PLAIN = 0;
        private static final int TOURS = 1;
        private static final int FAIR = 2;
        private static final int ALOFT = 3;
        private static final int ROWS = 4;
        private static final int MOST_TAGS = 32;
        private static final int MOST_BLOCKS = (MOST_STOCK + 1) * (MOST_STOCK + 1) * MOST_LAYERS;

        private final long[] states = new long[MOST_BLOCKS * MOST_TAGS];
        private final Board board = new Board();
        private final Guide guide = new Guide();
        private final Reach[] reaches = new Reach[MOST_SHOPS];
        private Valley valley;
        private Reach reach;
        private int startLayer;
        private int sand;
        private int gas;
        private int tags;
        private int aim;

        Roamer() {
            for (int shop = 0; shop < MOST_SHOPS; shop++) {
                reaches[shop] = new Reach();
            }
        }

        Reach cellsOf(Valley over, int shop, int era) {
            reach = reaches[shop];
            if (reach.cellsEra != era) {
                reach.clearCells();
                prepare(over, shop, PLAIN, 1);
                for (int hour = 0; hour < over.hours; hour++) {
                    passHour(hour);
                }
                reach.cellsEra = era;
            }
            return reach;
        }

        Reach toursOf(Valley over, int shop, int era) {
            reach = reaches[shop];
            if (reach.toursEra != era) {
                reach.clearTours();
                prepare(over, shop, TOURS, 1 << over.doorCount);
                noteTours(0, startLayer, placeOf(0, 0, startLayer), Reach.AT_FIRST);
                for (int hour = 0; hour < over.hours; hour++) {
                    passHour(hour);
                }
                reach.spreadTours();
                reach.toursEra = era;
            }
            return reach;
        }

        int hoursAtFair(Valley over, int shop) {
            prepare(over, shop, FAIR, over.fairTo - over.fairFrom + 2);
            for (int hour = 0; hour <= over.fairTo; hour++) {
                passHour(hour);
            }
            return highestTag();
        }

        int hoursAloft(Valley over, int shop) {
            prepare(over, shop, ALOFT, over.hours + 1);
            for (int hour = 0; hour < over.hours; hour++) {
                passHour(hour);
            }
            return highestTag();
        }

        long rowsOfActs(Valley over, int shop, int hours) {
            prepare(over, shop, ROWS, 1);
            for (int hour = 0; hour < hours; hour++) {
                passHour(hour);
            }
            long sum = 0L;
            for (int block = 0; block < blockCount(); block++) {
                sum += states[block];
            }
            return sum;
        }

        int actOnWay(Valley over, int shop, int era, int hour, int column, int layer) {
            Reach cells = cellsOf(over, shop, era);
            int target = layer * MOST_SIDE * MOST_SIDE + column;
            if (!guide.knows(era, shop, target)) {
                guide.take(states, board);
                guide.find(over, shop, cells, column, layer);
                guide.remember(era, shop, target);
            }
            return guide.actIn(hour);
        }

        private void prepare(Valley over, int shop, int kind, int tagCount) {
            valley = over;
            aim = kind;
            tags = Math.max(1, Math.min(tagCount, MOST_TAGS));
            startLayer = over.shopFact(shop, LAYER);
            sand = over.shopFact(shop, SAND);
            gas = over.shopFact(shop, GAS);
            board.fit(over);
            for (int i = 0; i < blockCount() * tags; i++) {
                states[i] = 0L;
            }
            states[placeOf(0, 0, startLayer)] = kind == ROWS ? 1L : bitOf(over.shopColumn(shop));
        }

        private int blockCount() {
            return (sand + 1) * (gas + 1) * valley.layers;
        }

        private int placeOf(int sandSpent, int gasSpent, int layer) {
            return ((sandSpent * (gas + 1) + gasSpent) * valley.layers + layer) * tags;
        }

        /**
         * From the most spent down: a state takes only from states with less spent.
         * What is spent tells the layer, but for the layers lost by cooling.
         */
        private void passHour(int hour) {
            for (int spent = sand; spent >= 0; spent--) {
                for (int used = Math.min(gas, hour + 1 - spent); used >= 0; used--) {
                    int highest = startLayer + spent - used;
                    int lowest = Math.max(0, highest - valley.coolings(hour));
                    for (int layer = lowest; layer <= highest && layer < valley.layers; layer++) {
                        passLayer(spent, used, layer, hour);
                    }
                    if (valley.coolsIn(hour)) {
                        sinkAll(spent, used);
                        lowest = Math.max(0, lowest - 1);
                    }
                    for (int layer = lowest; layer <= highest && layer < valley.layers; layer++) {
                        note(spent, used, layer, hour);
                    }
                }
            }
        }

        private void passLayer(int spent, int used, int layer, int hour) {
            int at = placeOf(spent, used, layer);
            boolean risen = spent > 0 && layer > 0;
            boolean sunk = used > 0 && layer < valley.layers - 1;
            int below = risen ? placeOf(spent - 1, used, layer - 1) : 0;
            int above = sunk ? placeOf(spent, used - 1, layer + 1) : 0;
            int wind = valley.windAt(layer, hour);
            for (int tag = 0; tag < tags; tag++) {
                long state = states[at + tag];
                if (risen) {
                    state = joined(state, states[below + tag]);
                }
                if (sunk) {
                    state = joined(state, states[above + tag]);
                }
                states[at + tag] = aim == ROWS ? state : board.carriedSet(state, wind);
            }
        }

        private void sinkAll(int spent, int used) {
            int ground = placeOf(spent, used, 0);
            for (int tag = 0; tag < tags; tag++) {
                states[ground + tag] = joined(states[ground + tag], states[ground + tags + tag]);
            }
            for (int layer = 1; layer < valley.layers; layer++) {
                int at = placeOf(spent, used, layer);
                for (int tag = 0; tag < tags; tag++) {
                    states[at + tag] = layer + 1 < valley.layers ? states[at + tags + tag] : 0L;
                }
            }
        }

        private long joined(long one, long two) {
            return aim == ROWS ? one + two : one | two;
        }

        /** Keeps what the aim asks of a state at the end of an hour. */
        private void note(int spent, int used, int layer, int hour) {
            int at = placeOf(spent, used, layer);
            if (aim == PLAIN) {
                reach.addCells(hour, layer, spent, states[at]);
            } else if (aim == TOURS) {
                noteTours(spent, layer, at, hour);
            } else if (aim == FAIR && hour >= valley.fairFrom) {
                countHour(at, bitOf(valley.fairColumn));
            } else if (aim == ALOFT && layer > 0) {
                countHour(at, -1L);
            }
        }

        /** A tag is here the set of doors that have been visited. */
        private void noteTours(int spent, int layer, int at, int hour) {
            if (layer <= valley.reach) {
                markDoors(at);
            }
            for (int tag = 0; tag < tags; tag++) {
                if (states[at + tag] != 0L) {
                    reach.addTour(tag, spent, hour);
                }
            }
        }

        private void markDoors(int at) {
            long all = 0L;
            for (int tag = 0; tag < tags; tag++) {
                all |= states[at + tag];
            }
            for (int door = 0; door < valley.doorCount; door++) {
                long column = bitOf(columnOf(valley.doorFact(door, X), valley.doorFact(door, Y)));
                for (int tag = 0; tag < tags && (all & column) != 0L; tag++) {
                    if ((tag >> door & 1) == 0) {
                        moveTag(at + tag, at + (tag | 1 << door), column);
                    }
                }
            }
        }

        /** A tag is here how many hours have counted; from the top, so that none counts twice. */
        private void countHour(int at, long columns) {
            for (int tag = tags - 2; tag >= 0; tag--) {
                moveTag(at + tag, at + tag + 1, columns);
            }
        }

        private void moveTag(int from, int to, long columns) {
            long moved = states[from] & columns;
            if (moved != 0L) {
                states[from] &= ~moved;
                states[to] |= moved;
            }
        }

        private int highestTag() {
            int highest = 0;
            for (int i = 0; i < blockCount() * tags; i++) {
                if (states[i] != 0L) {
                    highest = Math.max(highest, i % tags);
                }
            }
            return highest;
        }
    }

    /**
     * Finds the first row of acts to a cell: from the cell back it marks every
     * state that still leads there, then it takes the first act that stays marked.
     */
    private static final class Guide {
        private final int[] acts = new int[MOST_HOURS];
        private long[] marks;
        private Board board;
        private Valley valley;
        private int sand;
        private int gas;
        private int lastHour = NONE;
        private int knownEra;
        private int knownShop;
        private int knownTarget;

        /** The scratch has room for 25 hours with all that can be spent, in each layer. */
        void take(long[] scratch, Board winds) {
            marks = scratch;
            board = winds;
        }

        boolean knows(int era, int shop, int target) {
            return knownEra == era && knownShop == shop && knownTarget == target;
        }

        void remember(int era, int shop, int target) {
            knownEra = era;
            knownShop = shop;
            knownTarget = target;
        }

        int actIn(int hour) {
            return hour <= lastHour ? acts[hour] : NONE;
        }

        void find(Valley over, int shop, Reach reach, int column, int layer) {
            valley = over;
            lastHour = reach.soonestOf(over.hours, layer, bitOf(column));
            if (lastHour == NONE) {
                return;
            }
            sand = reach.leastAt(lastHour, layer, bitOf(column));
            gas = over.shopFact(shop, GAS);
            int pages = (lastHour + 2) * (sand + 1) * (gas + 1) * over.layers;
            for (int i = 0; i < pages; i++) {
                marks[i] = 0L;
            }
            for (int used = 0; used <= gas; used++) {
                marks[placeOf(lastHour + 1, sand, used, layer)] = bitOf(column);
            }
            for (int hour = lastHour; hour > 0; hour--) {
                markHour(hour);
            }
            walk(shop);
        }

        private int placeOf(int hour, int spent, int used, int layer) {
            return ((hour * (sand + 1) + spent) * (gas + 1) + used) * valley.layers + layer;
        }

        private void markHour(int hour) {
            for (int spent = 0; spent <= sand; spent++) {
                for (int used = 0; used <= gas; used++) {
                    for (int layer = 0; layer < valley.layers; layer++) {
                        marks[placeOf(hour, spent, used, layer)] = leading(hour, spent, used, layer);
                    }
                }
            }
        }

        /** The columns from which some act in an hour stays marked. */
        private long leading(int hour, int spent, int used, int layer) {
            long set = 0L;
            for (int act = 0; act < ACTS; act++) {
                if (canAct(act, spent, used, layer)) {
                    int level = levelBy(act, layer);
                    long goal = goalOf(act, hour, spent, used, level);
                    set |= board.sourcesOf(goal, valley.windAt(level, hour));
                }
            }
            return set;
        }

        private boolean canAct(int act, int spent, int used, int layer) {
            if (act == RISES) {
                return spent < sand && layer < valley.layers - 1;
            }
            return act != SINKS || used < gas && layer > 0;
        }

        private static int levelBy(int act, int layer) {
            return layer + (act == RISES ? 1 : 0) - (act == SINKS ? 1 : 0);
        }

        private long goalOf(int act, int hour, int spent, int used, int level) {
            int sandThen = spent + (act == RISES ? 1 : 0);
            int gasThen = used + (act == SINKS ? 1 : 0);
            return marks[placeOf(hour + 1, sandThen, gasThen, cooled(level, hour))];
        }

        private int cooled(int level, int hour) {
            return valley.coolsIn(hour) ? Math.max(0, level - 1) : level;
        }

        private void walk(int shop) {
            int column = valley.shopColumn(shop);
            int layer = valley.shopFact(shop, LAYER);
            int spent = 0;
            int used = 0;
            for (int hour = 0; hour <= lastHour; hour++) {
                int act = firstAct(hour, spent, used, layer, column);
                int level = levelBy(act, layer);
                acts[hour] = act;
                spent += act == RISES ? 1 : 0;
                used += act == SINKS ? 1 : 0;
                column = valley.carried(column, valley.windAt(level, hour));
                layer = cooled(level, hour);
            }
        }

        /** Some act always stays marked: the cell can be reached from here. */
        private int firstAct(int hour, int spent, int used, int layer, int column) {
            for (int act = 0; act < ACTS; act++) {
                if (canAct(act, spent, used, layer)) {
                    int level = levelBy(act, layer);
                    int to = valley.carried(column, valley.windAt(level, hour));
                    if ((goalOf(act, hour, spent, used, level) & bitOf(to)) != 0L) {
                        return act;
                    }
                }
            }
            return HANGS;
        }
    }

    /** A slot: a row of numbers of one width, or nothing. */
    private static final class Row {
        private final long[] numbers = new long[MOST_NUMBERS];
        private int size = NONE;
        private int width;

        boolean isThere() {
            return size >= 0;
        }

        void renew(int newWidth, int newSize) {
            width = newWidth;
            size = newSize;
            for (int i = 0; i < size; i++) {
                numbers[i] = 0L;
            }
        }

        boolean holds(int from, int n) {
            return from >= 0 && n >= 0 && from <= size && n <= size - from;
        }

        void put(int i, long v) {
            if (width == 0) {
                numbers[i] = (byte) v;
            } else if (width == 1) {
                numbers[i] = (short) v;
            } else if (width == 2) {
                numbers[i] = (int) v;
            } else {
                numbers[i] = v;
            }
        }

        void copyTo(int from, Row to, int at, int n) {
            System.arraycopy(numbers, from, to.numbers, at, n);
        }

        /** Whether every number i of each group is 0 or more and below its bound. */
        boolean keepsWithin(int[] bounds) {
            if (bounds.length == 0 || size % bounds.length != 0) {
                return false;
            }
            for (int i = 0; i < size; i++) {
                if (numbers[i] < 0L || numbers[i] >= bounds[i % bounds.length]) {
                    return false;
                }
            }
            return true;
        }

        int at(int i) {
            return (int) numbers[i];
        }
    }

    public BalloonGrocers() {
        for (int k = 0; k < IMAGES; k++) {
            images[k] = new Valley();
        }
        for (int slot = 0; slot < SLOTS; slot++) {
            rows[slot] = new Row();
        }
    }

    public int feed(int a, int b, int c, int d, int e) {
        if (tapeLength > TAPE_BYTES - FEED_BYTES) {
            return NONE;
        }
        putBytes(a);
        putBytes(b);
        putBytes(c);
        putBytes(d);
        putBytes(e);
        return tapeLength;
    }

    public int end(int n) {
        if (n < 0 || n > tapeLength) {
            return NONE;
        }
        tapeLength = n;
        return n;
    }

    public int valley() {
        boolean good = reader.reads(tape, tapeLength, spare);
        tapeLength = 0;
        if (!good) {
            return FAULTY;
        }
        Valley old = now;
        now = spare;
        spare = old;
        forgetAll();
        return now.lines;
    }

    public int fault(int what) {
        if (what == 0) {
            return reader.faultKind;
        }
        return what == 1 ? reader.faultPlace : NONE;
    }

    public int wind(int layer, int hour) {
        if (!now.hasLayer(layer) || !now.hasHour(hour)) {
            return NO_SUCH;
        }
        return now.windAt(layer, hour);
    }

    public int often(int layer, int wind) {
        if (!now.hasLayer(layer) || !isWind(wind)) {
            return NO_SUCH;
        }
        int sum = 0;
        for (int hour = 0; hour < now.hours; hour++) {
            sum += now.windAt(layer, hour) == wind ? 1 : 0;
        }
        return sum;
    }

    public int shop(int shop, int what) {
        if (!now.hasShop(shop) || what < 0 || what >= SHOP_FACTS) {
            return NO_SUCH;
        }
        return now.shopFact(shop, what);
    }

    public int door(int door, int what) {
        if (!now.hasDoor(door) || what < 0 || what > LEFT) {
            return NO_SUCH;
        }
        return what == LEFT ? flown().wantedAtEnd(door) : now.doorFact(door, what);
    }

    public int act(int shop, int hour) {
        return hasShopHour(shop, hour) ? now.actAt(shop, hour) : NO_SUCH;
    }

    public int plan(int shop, int hour, int act) {
        if (!hasShopHour(shop, hour) || !isAct(act)) {
            return NO_SUCH;
        }
        if (now.changeCount >= MOST_CHANGES) {
            return NO_CHANGE;
        }
        plannedStands = false;
        return now.change(shop, hour, act);
    }

    public int undo() {
        if (!now.stands()) {
            return NO_SUCH;
        }
        if (now.changeCount <= 0) {
            return NO_CHANGE;
        }
        plannedStands = false;
        now.takeBack();
        return now.changeCount;
    }

    public int changed(int i, int what) {
        if (!now.stands() || what < 0 || what >= CHANGE_FACTS) {
            return NO_SUCH;
        }
        return i < 0 || i >= now.changeCount ? NONE : now.changeFact(i, what);
    }

    public int where(int shop, int hour, int what) {
        if (!hasShopHour(shop, hour) || what < 0 || what >= LOG_FACTS) {
            return NO_SUCH;
        }
        return flown().factBehind(shop, hour, what);
    }

    public int why(int shop, int hour) {
        return hasShopHour(shop, hour) ? flown().reasonAt(shop, hour) : NO_SUCH;
    }

    public int vain(int shop) {
        if (!now.hasShop(shop)) {
            return NO_SUCH;
        }
        Voyage voyage = flown();
        int sum = 0;
        for (int hour = 0; hour < now.hours; hour++) {
            sum += voyage.reasonAt(shop, hour) != 0 ? 1 : 0;
        }
        return sum;
    }

    public int blown(int shop, int hour) {
        if (!hasShopHour(shop, hour)) {
            return NO_SUCH;
        }
        return flown().isCarriedAt(shop, hour) ? 1 : 0;
    }

    public int sales(int shop, int door) {
        if (!now.hasShop(shop) || door != NONE && !now.hasDoor(door)) {
            return NO_SUCH;
        }
        Voyage voyage = flown();
        int sum = 0;
        for (int hour = 0; hour < now.hours; hour++) {
            int seller = voyage.saleDoorAt(shop, hour);
            sum += seller != NONE && (door == NONE || door == seller) ? 1 : 0;
        }
        return sum;
    }

    public int sold(int shop, int i) {
        if (!now.hasShop(shop)) {
            return NO_SUCH;
        }
        Voyage voyage = flown();
        int sale = 0;
        for (int hour = 0; hour < now.hours; hour++) {
            if (voyage.saleDoorAt(shop, hour) != NONE) {
                if (sale == i) {
                    return hour;
                }
                sale++;
            }
        }
        return NONE;
    }

    public int money() {
        return now.stands() ? flown().moneyOfAll() : NO_SUCH;
    }

    public int richest() {
        if (!now.stands()) {
            return NO_SUCH;
        }
        Voyage voyage = flown();
        int rich = NONE;
        int most = NONE;
        for (int shop = 0; shop < now.shopCount; shop++) {
            if (voyage.factAtEnd(shop, MONEY) > most) {
                most = voyage.factAtEnd(shop, MONEY);
                rich = shop;
            }
        }
        return rich;
    }

    public int meets(int shop, int other) {
        if (!now.hasTwoShops(shop, other)) {
            return NO_SUCH;
        }
        Voyage voyage = flown();
        int bits = 0;
        for (int hour = 0; hour < now.hours; hour++) {
            boolean level = voyage.factBehind(shop, hour, LAYER) == voyage.factBehind(other, hour, LAYER);
            if (level && voyage.columnBehind(shop, hour) == voyage.columnBehind(other, hour)) {
                bits |= 1 << hour;
            }
        }
        return bits;
    }

    public int over(int shop, int x, int y) {
        if (!now.hasShop(shop) || !now.hasColumn(x, y)) {
            return NO_SUCH;
        }
        Voyage voyage = flown();
        int bits = 0;
        for (int hour = 0; hour < now.hours; hour++) {
            if (voyage.columnBehind(shop, hour) == columnOf(x, y)) {
                bits |= 1 << hour;
            }
        }
        return bits;
    }

    public int grounded(int shop) {
        if (!now.hasShop(shop)) {
            return NO_SUCH;
        }
        Voyage voyage = flown();
        int bits = 0;
        for (int hour = 0; hour < now.hours; hour++) {
            if (voyage.factBehind(shop, hour, LAYER) == 0) {
                bits |= 1 << hour;
            }
        }
        return bits;
    }

    public int least(int shop, int x, int y, int layer) {
        if (!hasShopCell(shop, x, y, layer)) {
            return NO_SUCH;
        }
        int column = columnOf(x, y);
        if (now.shopColumn(shop) == column && now.shopFact(shop, LAYER) == layer) {
            return 0;
        }
        return reachOf(shop).leastOfAll(now.hours, layer, bitOf(column));
    }

    public int soonest(int shop, int x, int y, int layer) {
        if (!hasShopCell(shop, x, y, layer)) {
            return NO_SUCH;
        }
        return reachOf(shop).soonestOf(now.hours, layer, bitOf(columnOf(x, y)));
    }

    public int way(int shop, int x, int y, int layer, int hour) {
        if (!hasShopCell(shop, x, y, layer) || !now.hasHour(hour)) {
            return NO_SUCH;
        }
        return roaming().actOnWay(now, shop, era, hour, columnOf(x, y), layer);
    }

    public int spots(int shop, int hour) {
        if (!hasShopHour(shop, hour)) {
            return NO_SUCH;
        }
        Reach reach = reachOf(shop);
        int sum = 0;
        for (int layer = 0; layer < now.layers; layer++) {
            sum += Long.bitCount(reach.columnsAt(hour, layer));
        }
        return sum;
    }

    public int columns(int shop, int hour) {
        if (!hasShopHour(shop, hour)) {
            return NO_SUCH;
        }
        Reach reach = reachOf(shop);
        long set = 0L;
        for (int layer = 0; layer < now.layers; layer++) {
            set |= reach.columnsAt(hour, layer);
        }
        return Long.bitCount(set);
    }

    public long ways(int shop, int hour) {
        return hasShopHour(shop, hour) ? roaming().rowsOfActs(now, shop, hour + 1) : NO_SUCH;
    }

    public int tour(int shop, int set) {
        return hasShopDoors(shop, set) ? toursOf(shop).sandOfTour(set) : NO_SUCH;
    }

    public int done(int shop, int set) {
        return hasShopDoors(shop, set) ? toursOf(shop).hourOfTour(set) : NO_SUCH;
    }

    public int doors(int shop, int n, int what) {
        if (!now.hasShop(shop) || !isStock(n) || what < 0 || what > 1) {
            return NO_SUCH;
        }
        Reach tours = toursOf(shop);
        int fullest = 0;
        for (int set = 0; set < 1 << now.doorCount; set++) {
            if (tours.canTour(set, n) && Integer.bitCount(set) > Integer.bitCount(fullest)) {
                fullest = set;
            }
        }
        return what == 0 ? Integer.bitCount(fullest) : fullest;
    }

    public int fair(int shop) {
        if (!now.hasShop(shop)) {
            return NO_SUCH;
        }
        return now.fairColumn == NONE ? NONE : roaming().hoursAtFair(now, shop);
    }

    public int aloft(int shop) {
        return now.hasShop(shop) ? roaming().hoursAloft(now, shop) : NO_SUCH;
    }

    public int lasts(int shop) {
        if (!now.hasShop(shop)) {
            return NO_SUCH;
        }
        Reach reach = reachOf(shop);
        int last = NONE;
        for (int hour = 0; hour < now.hours; hour++) {
            for (int layer = 1; layer < now.layers; layer++) {
                if (reach.columnsAt(hour, layer) != 0L) {
                    last = hour;
                }
            }
        }
        return last;
    }

    public int meet(int shop, int other) {
        if (!now.hasTwoShops(shop, other)) {
            return NO_SUCH;
        }
        return firstTogether(reachOf(shop), reachOf(other), 0);
    }

    public int rope(int shop, int other) {
        if (!now.hasTwoShops(shop, other)) {
            return NO_SUCH;
        }
        return firstTogether(reachOf(shop), reachOf(other), 1);
    }

    public int lands(int shop, int hour) {
        if (!hasShopHour(shop, hour)) {
            return NO_SUCH;
        }
        int column = landing(flown(), shop, hour);
        return column == NONE ? NONE : hundredfold(column);
    }

    public int who(int x, int y) {
        if (!now.hasColumn(x, y)) {
            return NO_SUCH;
        }
        Voyage voyage = flown();
        int sum = 0;
        for (int shop = 0; shop < now.shopCount; shop++) {
            for (int hour = 0; hour < now.hours; hour++) {
                sum += dropsTo(voyage, shop, hour, columnOf(x, y)) ? 1 : 0;
            }
        }
        return sum;
    }

    public int first(int x, int y) {
        if (!now.hasColumn(x, y)) {
            return NO_SUCH;
        }
        Voyage voyage = flown();
        for (int shop = 0; shop < now.shopCount; shop++) {
            for (int hour = 0; hour < now.hours; hour++) {
                if (dropsTo(voyage, shop, hour, columnOf(x, y))) {
                    return 100 * shop + hour;
                }
            }
        }
        return NONE;
    }

    public int suspects(int x, int y) {
        if (!now.hasColumn(x, y)) {
            return NO_SUCH;
        }
        Voyage voyage = flown();
        int bits = 0;
        for (int shop = 0; shop < now.shopCount; shop++) {
            for (int hour = 0; hour < now.hours; hour++) {
                if (dropsTo(voyage, shop, hour, columnOf(x, y))) {
                    bits |= 1 << shop;
                }
            }
        }
        return bits;
    }

    public int drift(int x, int y, int layer, int hour, int n) {
        if (!hasDrift(x, y, layer, hour, n)) {
            return NO_SUCH;
        }
        return hundredfold(drifted(columnOf(x, y), layer, hour, n));
    }

    public int whence(int x, int y, int layer, int hour, int n) {
        if (!hasDrift(x, y, layer, hour, n)) {
            return NO_SUCH;
        }
        for (int fromX = 0; fromX < now.wide; fromX++) {
            for (int fromY = 0; fromY < now.deep; fromY++) {
                int from = columnOf(fromX, fromY);
                if (drifted(from, layer, hour, n) == columnOf(x, y)) {
                    return hundredfold(from);
                }
            }
        }
        return NONE;
    }

    public int smoke(int slot) {
        int[] bounds = {now.hours, now.wide, now.deep, now.wide, now.deep};
        int refusal = rowRefusal(slot, bounds);
        if (refusal != 0) {
            return refusal;
        }
        Row row = rows[slot];
        int bits = (1 << now.layers) - 1;
        for (int i = 0; i + 5 <= row.size; i += 5) {
            int from = columnOf(row.at(i + 1), row.at(i + 2));
            int to = columnOf(row.at(i + 3), row.at(i + 4));
            for (int layer = 0; layer < now.layers; layer++) {
                if (now.carried(from, now.windAt(layer, row.at(i))) != to) {
                    bits &= ~(1 << layer);
                }
            }
        }
        return bits;
    }

    public int kites(int slot) {
        int[] bounds = {now.hours, WINDS};
        int refusal = rowRefusal(slot, bounds);
        if (refusal != 0) {
            return refusal;
        }
        Row row = rows[slot];
        int bits = (1 << now.layers) - 1;
        for (int i = 0; i + 2 <= row.size; i += 2) {
            for (int layer = 0; layer < now.layers; layer++) {
                if (now.windAt(layer, row.at(i)) != row.at(i + 1)) {
                    bits &= ~(1 << layer);
                }
            }
        }
        return bits;
    }

    public int known(int layer) {
        if (!now.hasLayer(layer)) {
            return NO_SUCH;
        }
        int told = 0;
        for (int twin = 0; twin < now.layers; twin++) {
            if (twin != layer) {
                int hour = firstUnlike(layer, twin);
                if (hour == NONE) {
                    return NONE;
                }
                told = Math.max(told, hour + 1);
            }
        }
        return told;
    }

    public int price(int layer) {
        if (!now.hasLayer(layer)) {
            return NO_SUCH;
        }
        return layer > now.reach ? NONE : now.saleBrings(layer);
    }

    public int worth(int shop, int hour, int act) {
        if (!hasShopHour(shop, hour) || !isAct(act)) {
            return NO_WORTH;
        }
        spare.copyFrom(now);
        return gainBy(flown(), shop, hour, act);
    }

    public int best() {
        if (!now.stands()) {
            return NO_SUCH;
        }
        Voyage voyage = flown();
        spare.copyFrom(now);
        int code = NONE;
        int most = 0;
        for (int shop = 0; shop < now.shopCount; shop++) {
            for (int hour = 0; hour < now.hours; hour++) {
                for (int act = 0; act < ACTS; act++) {
                    int gain = act == now.actAt(shop, hour) ? 0 : gainBy(voyage, shop, hour, act);
                    if (gain > most) {
                        most = gain;
                        code = 1000 * shop + 10 * hour + act;
                    }
                }
            }
        }
        return code;
    }

    public int other(int what) {
        if (!now.stands() || what < 0 || what > 4) {
            return NO_WORTH;
        }
        spare.copyFrom(now);
        if (what == 0) {
            spare.cools = 0;
        } else if (what == 1) {
            stillAll(spare);
        } else if (what == 2) {
            spare.reach = Math.min(now.reach + 1, now.layers - 1);
        } else {
            addToAll(spare, what);
        }
        trial.begin(spare, 0, 0);
        trial.flyFrom(0);
        return trial.moneyOfAll() - flown().moneyOfAll();
    }

    public int load(int shop, int what, int n) {
        if (!now.hasShop(shop) || what < SAND || what > GOODS || !isStock(n)) {
            return NO_SUCH;
        }
        int was = now.shopFact(shop, what);
        now.shopFacts[shop * SHOP_FACTS + what] = n;
        forgetAll();
        return was;
    }

    public int turn(int layer, int hour, int wind) {
        if (layer < 1 || !now.hasLayer(layer) || !now.hasHour(hour) || !isWind(wind)) {
            return NO_SUCH;
        }
        int was = now.windAt(layer, hour);
        now.winds[layer * MOST_HOURS + hour] = wind;
        forgetAll();
        return was;
    }

    public int gust(int seed, int odds, int shop, int hour) {
        if (!isDraw(seed, odds) || !hasShopHour(shop, hour)) {
            return NO_SUCH;
        }
        trial.begin(now, seed, odds);
        trial.flyFrom(0);
        int x = trial.factBehind(shop, hour, X);
        int y = trial.factBehind(shop, hour, Y);
        return 100 * x + 10 * y + trial.factBehind(shop, hour, LAYER);
    }

    public int chance(int seed, int n, int odds, int shop, int x, int y) {
        boolean drawn = isDraw(seed, odds) && n >= 1 && n <= MOST_SEEDS;
        if (!drawn || !now.hasShop(shop) || !now.hasColumn(x, y)) {
            return NO_SUCH;
        }
        int sum = 0;
        for (int i = 0; i < n; i++) {
            trial.begin(now, seed + i, odds);
            trial.flyFrom(0);
            sum += trial.columnAtEnd(shop) == columnOf(x, y) ? 1 : 0;
        }
        return sum;
    }

    public int takings(int seed, int odds) {
        if (!now.stands() || !isDraw(seed, odds)) {
            return NO_SUCH;
        }
        trial.begin(now, seed, odds);
        trial.flyFrom(0);
        return trial.moneyOfAll();
    }

    public int count(int what) {
        switch (what) {
            case 0:
                return now.wide;
            case 1:
                return now.deep;
            case 2:
                return now.layers;
            case 3:
                return now.hours;
            case 4:
                return now.cools;
            case 5:
                return now.reach;
            case 6:
                return now.fee;
            case 7:
                return now.shopCount;
            case 8:
                return now.doorCount;
            case 9:
                return now.lines;
            case 10:
                return tapeLength;
            case 11:
                return now.changeCount;
            case 12:
                return fullSlots();
            default:
                return NONE;
        }
    }

    public int keep(int k) {
        if (k < 0 || k >= IMAGES) {
            return NO_SUCH;
        }
        images[k].copyFrom(now);
        kept[k] = true;
        return 0;
    }

    public int back(int k) {
        if (k < 0 || k >= IMAGES) {
            return NO_SUCH;
        }
        if (!kept[k]) {
            return EMPTY;
        }
        now.copyFrom(images[k]);
        forgetAll();
        return 0;
    }

    public int row(int slot, int width, int n) {
        if (!isSlot(slot) || width < 0 || width >= WIDTHS || n > MOST_NUMBERS) {
            return NO_SUCH;
        }
        if (n < 0) {
            return BELOW_ZERO;
        }
        rows[slot].renew(width, n);
        return 0;
    }

    public int write(int slot, int i, long v) {
        if (!isSlot(slot)) {
            return NO_SUCH;
        }
        if (!rows[slot].isThere()) {
            return EMPTY;
        }
        if (!rows[slot].holds(i, 1)) {
            return NO_NUMBER;
        }
        rows[slot].put(i, v);
        return 0;
    }

    public int paste(int slot, int i, int to, int k, int n) {
        if (!isSlot(slot) || !isSlot(to)) {
            return NO_SUCH;
        }
        if (!rows[slot].isThere() || !rows[to].isThere()) {
            return EMPTY;
        }
        if (rows[slot].width != rows[to].width) {
            return UNLIKE;
        }
        if (!rows[slot].holds(i, n) || !rows[to].holds(k, n)) {
            return NO_NUMBER;
        }
        rows[slot].copyTo(i, rows[to], k, n);
        return 0;
    }

    private void putBytes(int number) {
        for (int shift = 24; shift >= 0; shift -= 8) {
            tape[tapeLength] = (byte) (number >> shift);
            tapeLength++;
        }
    }

    private void forgetAll() {
        plannedStands = false;
        era++;
    }

    /** The voyage by the plan as it is now; asked only where a valley stands. */
    private Voyage flown() {
        if (!plannedStands) {
            planned.begin(now, 0, 0);
            planned.flyFrom(0);
            plannedStands = true;
        }
        return planned;
    }

    /** Made when it is first asked for: many objects never need its long rows. */
    private Roamer roaming() {
        if (roamer == null) {
            roamer = new Roamer();
        }
        return roamer;
    }

    private Reach reachOf(int shop) {
        return roaming().cellsOf(now, shop, era);
    }

    private Reach toursOf(int shop) {
        return roaming().toursOf(now, shop, era);
    }

    private boolean hasShopHour(int shop, int hour) {
        return now.hasShop(shop) && now.hasHour(hour);
    }

    private boolean hasShopCell(int shop, int x, int y, int layer) {
        return now.hasShop(shop) && now.hasColumn(x, y) && now.hasLayer(layer);
    }

    private boolean hasShopDoors(int shop, int set) {
        return now.hasShop(shop) && now.hasDoors(set);
    }

    private boolean hasDrift(int x, int y, int layer, int hour, int n) {
        boolean stretch = now.hasHour(hour) && n >= 0 && n <= MOST_HOURS;
        return stretch && now.hasColumn(x, y) && now.hasLayer(layer);
    }

    /** The first hour at whose end x, y and layer of two shops can be no more than so far apart. */
    private int firstTogether(Reach mine, Reach yours, int apart) {
        for (int hour = 0; hour < now.hours; hour++) {
            for (int layer = 0; layer < now.layers; layer++) {
                if ((mine.columnsAt(hour, layer) & columnsNear(yours, hour, layer, apart)) != 0L) {
                    return hour;
                }
            }
        }
        return NONE;
    }

    private long columnsNear(Reach reach, int hour, int layer, int apart) {
        long set = 0L;
        for (int near = Math.max(0, layer - apart); near <= Math.min(layer + apart, now.layers - 1); near++) {
            set |= reach.columnsAt(hour, near);
        }
        return apart == 0 ? set : Board.widened(set);
    }

    /** The column where a drop lies; NONE if the hours are over ahead. */
    private int landing(Voyage voyage, int shop, int hour) {
        int column = voyage.columnBehind(shop, hour);
        int then = hour + 1;
        for (int layer = voyage.factBehind(shop, hour, LAYER); layer > 0; layer--) {
            if (!now.hasHour(then)) {
                return NONE;
            }
            column = now.carried(column, now.windAt(layer, then));
            then++;
        }
        return column;
    }

    private boolean dropsTo(Voyage voyage, int shop, int hour, int column) {
        return voyage.factBehind(shop, hour, LAYER) > 0 && landing(voyage, shop, hour) == column;
    }

    private int drifted(int column, int layer, int hour, int n) {
        int place = column;
        for (int then = hour; then < now.hours && then < hour + n; then++) {
            place = now.carried(place, now.windAt(layer, then));
        }
        return place;
    }

    /** Why a slot's row can't be read against the valley; 0 if it can. */
    private int rowRefusal(int slot, int[] bounds) {
        if (!isSlot(slot) || !now.stands()) {
            return NO_SUCH;
        }
        if (!rows[slot].isThere()) {
            return EMPTY;
        }
        return rows[slot].keepsWithin(bounds) ? 0 : NO_SUCH;
    }

    private int firstUnlike(int layer, int twin) {
        for (int hour = 0; hour < now.hours; hour++) {
            if (now.windAt(layer, hour) != now.windAt(twin, hour)) {
                return hour;
            }
        }
        return NONE;
    }

    /** What another act brings; the spare valley is a copy of this one, and stays so. */
    private int gainBy(Voyage voyage, int shop, int hour, int act) {
        spare.setAct(shop, hour, act);
        trial.beginBehind(spare, voyage, hour);
        trial.flyFrom(hour);
        spare.setAct(shop, hour, now.actAt(shop, hour));
        return trial.moneyOfAll() - voyage.moneyOfAll();
    }

    private static void stillAll(Valley valley) {
        for (int i = 0; i < valley.winds.length; i++) {
            valley.winds[i] = STILL;
        }
    }

    private static void addToAll(Valley valley, int what) {
        for (int shop = 0; shop < valley.shopCount; shop++) {
            valley.shopFacts[shop * SHOP_FACTS + what]++;
        }
    }

    private int fullSlots() {
        int sum = 0;
        for (int slot = 0; slot < SLOTS; slot++) {
            sum += rows[slot].isThere() ? 1 : 0;
        }
        return sum;
    }

    private static boolean isSlot(int slot) {
        return slot >= 0 && slot < SLOTS;
    }

    private static boolean isWind(int wind) {
        return wind >= 0 && wind < WINDS;
    }

    private static boolean isAct(int act) {
        return act >= 0 && act < ACTS;
    }

    private static boolean isStock(int n) {
        return n >= 0 && n <= MOST_STOCK;
    }

    private static boolean isDraw(int seed, int odds) {
        return seed >= 0 && seed <= MOST_SEED && odds >= 0 && odds <= MOST_ODDS;
    }

    private static int columnOf(int x, int y) {
        return y * MOST_SIDE + x;
    }

    private static int xOf(int column) {
        return column % MOST_SIDE;
    }

    private static int yOf(int column) {
        return column / MOST_SIDE;
    }

    private static long bitOf(int column) {
        return 1L << column;
    }

    private static int hundredfold(int column) {
        return 100 * xOf(column) + yOf(column);
    }
}
