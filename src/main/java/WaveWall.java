import java.util.Arrays;
import java.util.NoSuchElementException;

/**
 * Orders picked together by waves and parted at a wall of holes.
 *
 * The class itself is the face: it looks at arguments, keeps the tape and the
 * rows for undoing and keeping. What is told stands in Text (read by Reader),
 * what changes by acts in Floor, what is thought of the next wave in Plan.
 */
public final class WaveWall {
    public static final int NONE = -1;

    private static final int NO_SUCH = -2;

    private static final int TAPE_BYTES = 600;
    private static final int FEED_BYTES = 20;
    private static final int ITEMS = 10;
    private static final int ORDERS = 16;
    private static final int HOLES = 8;
    private static final int ITEMS_OF_ORDER = 6;
    private static final int UNITS_OF_LINE = 9;
    private static final int WAVE_ORDERS = 8;
    private static final int WAVE_UNITS = 60;
    private static final int STOCK_OF_ITEM = 99;
    // Every unit is on the belt once at most, so no row of units grows beyond this.
    private static final int ALL_UNITS = ORDERS * ITEMS_OF_ORDER * UNITS_OF_LINE;
    private static final int STEP_UNITS = 200;
    private static final int BEST_PICKS = 6;
    private static final int UNDO_ACTS = 12;
    private static final int KEEPS = 2;

    private static final int WAITS = 0;
    private static final int RELEASED = 1;
    private static final int HAS_HOLE = 2;
    private static final int PUT_BY = 3;
    private static final int IS_WHOLE = 4;

    private final byte[] tape = new byte[TAPE_BYTES];
    private int tapeLength = 0;
    private final Reader reader = new Reader();
    private Text text = new Text();
    // A text is read in here, so that a fault leaves the one in use alone.
    private Text spareText = new Text();
    private final Floor floor = new Floor();
    private final Plan plan = new Plan();
    // The rows of the past, of keeps and of thought are made when first needed and used again.
    private final Floor[] past = new Floor[UNDO_ACTS];
    private int nextPast = 0;
    private int undoable = 0;
    private final Floor[] kept = new Floor[KEEPS];
    private final boolean[] laid = new boolean[KEEPS];
    private Floor thought = null;

    public WaveWall() {
    }

    public int feed(int a, int b, int c, int d, int e) {
        if (tapeLength > TAPE_BYTES - FEED_BYTES) {
            return NONE;
        }
        putOnTape(a);
        putOnTape(b);
        putOnTape(c);
        putOnTape(d);
        putOnTape(e);
        return tapeLength;
    }

    public int wall(int n) {
        if (n < 0 || n > tapeLength) {
            return NONE;
        }
        tapeLength = 0;
        int fault = reader.read(tape, n, spareText);
        if (fault != 0) {
            return -2 - fault;
        }
        Text told = spareText;
        spareText = text;
        text = told;
        floor.begin(text);
        undoable = 0;
        for (int k = 0; k < KEEPS; k++) {
            laid[k] = false;
        }
        return text.lines;
    }

    public int item(int item, int what) {
        if (!text.isItem(item)) {
            return NONE;
        }
        switch (what) {
            case 0:
                return text.place[item];
            case 1:
                return floor.stock[item];
            case 2:
                return floor.lateOfItem(item);
            default:
                return NONE;
        }
    }

    public int order(int order, int what) throws NoSuchElementException {
        if (!text.isOrder(order)) {
            throw new NoSuchElementException("no such order");
        }
        switch (what) {
            case 0:
                return text.due[order];
            case 1:
                return text.total[order];
            case 2:
                return sumOfOrder(floor.has, order);
            case 3:
                return sumOfOrder(floor.late, order);
            case 4:
                return floor.how[order];
            case 5:
                return floor.holeOf[order];
            default:
                throw new NoSuchElementException("no such what");
        }
    }

    public int units(int order, int item, int what) {
        if (!text.isOrder(order) || !text.isItem(item)) {
            return NONE;
        }
        switch (what) {
            case 0:
                return text.need[cell(order, item)];
            case 1:
                return floor.has[cell(order, item)];
            case 2:
                return floor.late[cell(order, item)];
            default:
                return NONE;
        }
    }

    // ---- the next wave

    public int alike(int order, int other) {
        if (!text.isOrder(order) || !text.isOrder(other)) {
            return NONE;
        }
        return Integer.bitCount(text.itemsOf[order] & text.itemsOf[other]);
    }

    public int wave() {
        plan.make(text, floor);
        return plan.orders;
    }

    public int pick(int i, int what) {
        plan.make(text, floor);
        if (i == NONE) {
            return plan.picks;
        }
        if (i < 0 || i >= plan.picks || what < 0 || what > 1) {
            return NO_SUCH;
        }
        return what == 0 ? plan.itemOf[i] : plan.unitsOf[i];
    }

    public int walk() {
        plan.make(text, floor);
        return plan.distance(text);
    }

    public int cost(int a, int b) {
        plan.make(text, floor);
        long forPicks = (long) a * plan.picks;
        long forWalk = (long) b * plan.distance(text);
        if (!isInt(forPicks) || !isInt(forWalk) || !isInt(forPicks + forWalk)) {
            return Integer.MIN_VALUE;
        }
        return (int) (forPicks + forWalk);
    }

    // ---- acts

    public int release() {
        plan.make(text, floor);
        if (plan.orders == 0) {
            return NONE;
        }
        remember();
        floor.letGo(text, plan);
        return Integer.bitCount(plan.orders);
    }

    public int step(int n) {
        if (n < 1 || n > STEP_UNITS || floor.onBelt() == 0) {
            return NONE;
        }
        remember();
        return floor.takeFromBelt(text, n);
    }

    public int stock(int item, int n) {
        if (!text.isItem(item) || n < 1 || n > STOCK_OF_ITEM) {
            return NONE;
        }
        remember();
        return floor.bringStock(text, item, n);
    }

    public int by(int order) {
        if (!text.isOrder(order) || floor.how[order] != HAS_HOLE) {
            return NONE;
        }
        remember();
        return floor.putBy(text, order);
    }

    // ---- the belt, the wall

    public int belt(int i, int what) {
        if (i == NONE) {
            return floor.onBelt();
        }
        if (i < 0 || i >= floor.onBelt()) {
            return NO_SUCH;
        }
        return partOfUnit(floor.belt[floor.beltFirst + i], what);
    }

    public int aside(int i, int what) {
        if (i == NONE) {
            return floor.onSide;
        }
        if (i < 0 || i >= floor.onSide) {
            return NO_SUCH;
        }
        return partOfUnit(floor.side[i], what);
    }

    public int hole(int hole) {
        if (hole < 0 || hole >= text.holes) {
            return NO_SUCH;
        }
        return floor.orderIn[hole];
    }

    public int whole(int k) {
        if (k == NONE) {
            return floor.wholeCount;
        }
        if (k < 0 || k >= floor.wholeCount) {
            return NO_SUCH;
        }
        return floor.wholes[k];
    }

    public int stuck() {
        int bits = 0;
        for (int order = 0; order < text.orders; order++) {
            if (floor.isStuck(text, order)) {
                bits |= 1 << order;
            }
        }
        return bits;
    }

    // ---- in thought

    public int needs() {
        plan.make(text, floor);
        return plan.needsAsPicked(text);
    }

    public int best(int what) {
        plan.make(text, floor);
        if (plan.picks > BEST_PICKS) {
            return NO_SUCH;
        }
        if (plan.picks == 0 || what < 0 || what > plan.picks) {
            return NONE;
        }
        int needs = plan.findBest(text);
        return what == 0 ? needs : plan.bestItem[what - 1];
    }

    public int sizes(int orders, int what) {
        if (orders < 1 || orders > WAVE_ORDERS || what < 0 || what > 1) {
            return NONE;
        }
        return what == 0 ? wavesOfSize(orders) : picksOfSize(orders);
    }

    public int bestSize() {
        int best = 1;
        int fewest = picksOfSize(best);
        for (int size = 2; size <= WAVE_ORDERS; size++) {
            int picks = picksOfSize(size);
            if (picks < fewest) {
                fewest = picks;
                best = size;
            }
        }
        return best;
    }

    public int wouldBe() {
        if (thought == null) {
            thought = new Floor();
        }
        thought.copyFrom(floor);
        thought.takeFromBelt(text, ALL_UNITS);
        return thought.wholeCount;
    }

    // ---- undone, kept

    public int undo() {
        if (undoable == 0) {
            return NONE;
        }
        nextPast = (nextPast + UNDO_ACTS - 1) % UNDO_ACTS;
        Floor before = past[nextPast];
        if (before != null) {
            floor.copyFrom(before);
        }
        undoable--;
        return undoable;
    }

    public boolean keep(int k, boolean back) {
        if (k < 0 || k >= KEEPS) {
            return false;
        }
        if (back) {
            return goBackTo(k);
        }
        Floor row = kept[k];
        if (row == null) {
            row = new Floor();
            kept[k] = row;
        }
        row.copyFrom(floor);
        laid[k] = true;
        return true;
    }

    public int count(int what) {
        switch (what) {
            case 0:
                return text.items;
            case 1:
                return text.orders;
            case 2:
                return text.holes;
            case 3:
                return floor.freeHoles(text);
            case 4:
                return Integer.bitCount(floor.waiting(text));
            case 5:
                return floor.lateOfAll();
            case 6:
                return undoable;
            case 7:
                return tapeLength;
            case 8:
                return text.waveOrders;
            case 9:
                return text.waveUnits;
            default:
                return NONE;
        }
    }

    // ---- the face's own help

    private void putOnTape(int number) {
        for (int shift = 24; shift >= 0; shift -= 8) {
            if (tapeLength < TAPE_BYTES) {
                tape[tapeLength] = (byte) (number >> shift);
                tapeLength++;
            }
        }
    }

    private void remember() {
        Floor row = past[nextPast];
        if (row == null) {
            row = new Floor();
            past[nextPast] = row;
        }
        row.copyFrom(floor);
        nextPast = (nextPast + 1) % UNDO_ACTS;
        undoable = Math.min(undoable + 1, UNDO_ACTS);
    }

    private boolean goBackTo(int k) {
        Floor row = kept[k];
        if (!laid[k] || row == null) {
            return false;
        }
        floor.copyFrom(row);
        undoable = 0;
        return true;
    }

    private int wavesOfSize(int size) {
        int waiting = floor.waiting(text);
        int waves = 0;
        for (int i = 0; i < ORDERS && waiting != 0; i++) {
            waiting &= ~text.gather(waiting, size);
            waves++;
        }
        return waves;
    }

    private int picksOfSize(int size) {
        int waiting = floor.waiting(text);
        int picks = 0;
        for (int i = 0; i < ORDERS && waiting != 0; i++) {
            int together = text.gather(waiting, size);
            picks += Integer.bitCount(text.itemsOfAll(together));
            waiting &= ~together;
        }
        return picks;
    }

    private static boolean isInt(long number) {
        return number >= Integer.MIN_VALUE && number <= Integer.MAX_VALUE;
    }

    private static boolean hasBit(int bits, int number) {
        return (bits >> number & 1) != 0;
    }

    // Orders by items stand in rows of one dimension.
    private static int cell(int order, int item) {
        return order * ITEMS + item;
    }

    // A unit in a row of units is the cell of its order and its item.
    private static int orderOfUnit(int unit) {
        return unit / ITEMS;
    }

    private static int itemOfUnit(int unit) {
        return unit % ITEMS;
    }

    private static int partOfUnit(int unit, int what) {
        switch (what) {
            case 0:
                return orderOfUnit(unit);
            case 1:
                return itemOfUnit(unit);
            default:
                return NO_SUCH;
        }
    }

    private static int sumOfOrder(int[] cells, int order) {
        int sum = 0;
        for (int item = 0; item < ITEMS; item++) {
            sum += cells[cell(order, item)];
        }
        return sum;
    }

    /** What the text tells: it changes by wall alone. */
    private static final class Text {
        int lines = 0;
        int holes = 4;
        boolean holesTold = false;
        int waveOrders = 4;
        int waveUnits = 30;
        boolean waveTold = false;
        int items = 0;
        final int[] itemName = new int[ITEMS];
        final int[] place = new int[ITEMS];
        final int[] firstStock = new int[ITEMS];
        int orders = 0;
        final int[] orderName = new int[ORDERS];
        final int[] due = new int[ORDERS];
        final int[] need = new int[ORDERS * ITEMS];
        final int[] total = new int[ORDERS];
        final int[] itemsOf = new int[ORDERS];
        // The orders' numbers, the earlier one first.
        final int[] early = new int[ORDERS];

        void clear() {
            lines = 0;
            holes = 4;
            holesTold = false;
            waveOrders = 4;
            waveUnits = 30;
            waveTold = false;
            items = 0;
            orders = 0;
            Arrays.fill(need, 0);
            Arrays.fill(total, 0);
            Arrays.fill(itemsOf, 0);
        }

        boolean isItem(int item) {
            return item >= 0 && item < items;
        }

        boolean isOrder(int order) {
            return order >= 0 && order < orders;
        }

        int itemNamed(int name) {
            for (int item = 0; item < items; item++) {
                if (itemName[item] == name) {
                    return item;
                }
            }
            return NONE;
        }

        boolean hasName(int name) {
            for (int order = 0; order < orders; order++) {
                if (orderName[order] == name) {
                    return true;
                }
            }
            return itemNamed(name) != NONE;
        }

        void addItem(int name, int placeOfIt, int stockOfIt) {
            if (items < ITEMS) {
                itemName[items] = name;
                place[items] = placeOfIt;
                firstStock[items] = stockOfIt;
                items++;
            }
        }

        void addOrder(int name, int dueOfIt) {
            if (orders >= ORDERS) {
                return;
            }
            orderName[orders] = name;
            due[orders] = dueOfIt;
            int at = orders;
            for (; at > 0 && due[early[at - 1]] > dueOfIt; at--) {
                early[at] = early[at - 1];
            }
            early[at] = orders;
            orders++;
        }

        void addUnits(int order, int item, int units) {
            if (isOrder(order) && isItem(item)) {
                need[cell(order, item)] = units;
                total[order] += units;
                itemsOf[order] |= 1 << item;
            }
        }

        int itemsOfAll(int someOrders) {
            int bits = 0;
            for (int order = 0; order < orders; order++) {
                if (hasBit(someOrders, order)) {
                    bits |= itemsOf[order];
                }
            }
            return bits;
        }

        /** The next wave of those that wait, with so many orders at most. */
        int gather(int waiting, int most) {
            int first = earliest(waiting);
            if (first == NONE) {
                return 0;
            }
            int together = 1 << first;
            int room = waveUnits - total[first];
            for (int taken = 1; taken < most; taken++) {
                int next = bestToJoin(itemsOfAll(together), waiting & ~together, room);
                if (next == NONE) {
                    return together;
                }
                together |= 1 << next;
                room -= total[next];
            }
            return together;
        }

        private int earliest(int waiting) {
            for (int e = 0; e < orders; e++) {
                if (hasBit(waiting, early[e])) {
                    return early[e];
                }
            }
            return NONE;
        }

        // Going by the earlier one first, a later one is taken only where it is better.
        private int bestToJoin(int gathered, int candidates, int room) {
            int best = NONE;
            int bestShared = 0;
            int bestOthers = 0;
            for (int e = 0; e < orders; e++) {
                int order = early[e];
                if (!hasBit(candidates, order) || total[order] > room) {
                    continue;
                }
                int shared = Integer.bitCount(itemsOf[order] & gathered);
                int others = Integer.bitCount(itemsOf[order] & ~gathered);
                if (best == NONE || shared > bestShared || shared == bestShared && others < bestOthers) {
                    best = order;
                    bestShared = shared;
                    bestOthers = others;
                }
            }
            return best;
        }
    }

    /**
     * Reads a text from left to right. As places only grow, the first fault
     * met is the one whose place is least; all reading behind it does nothing.
     */
    private static final class Reader {
        private static final int END = 0;
        private static final int WORD = 1;
        private static final int NUMBER = 2;
        private static final int CLOSE = 3;
        private static final int NO_TOKEN = 4;
        private static final int BLANK = 5;

        private static final int UNFIT = 1;
        private static final int TWICE = 2;
        private static final int UNKNOWN = 3;
        private static final int CANNOT_BE = 4;
        private static final int TOO_MANY = 5;

        private static final int WORD_LETTERS = 6;
        private static final int NUMBER_DIGITS = 2;
        // A word is a number of base 32, a being 1, so that a and aa are unlike.
        private static final int SAYS_HOLES = (((8 * 32 + 15) * 32 + 12) * 32 + 5) * 32 + 19;
        private static final int SAYS_WAVE = ((23 * 32 + 1) * 32 + 22) * 32 + 5;
        private static final int SAYS_ITEM = ((9 * 32 + 20) * 32 + 5) * 32 + 13;
        private static final int SAYS_ORDER = (((15 * 32 + 18) * 32 + 4) * 32 + 5) * 32 + 18;

        private byte[] bytes = new byte[0];
        private int length = 0;
        private int at = 0;
        private int kind = END;
        private int place = 0;
        private int value = 0;
        private int fault = 0;

        /** 0, or 8 * place + kind of the fault. */
        int read(byte[] tapeBytes, int n, Text into) {
            bytes = tapeBytes;
            length = Math.min(n, tapeBytes.length);
            at = 0;
            fault = 0;
            into.clear();
            advance();
            for (int line = 0; line < TAPE_BYTES && fault == 0 && kind != END; line++) {
                readLine(into);
            }
            return fault;
        }

        private void readLine(Text into) {
            int told = kind == WORD ? value : 0;
            switch (told) {
                case SAYS_HOLES:
                    readHoles(into);
                    break;
                case SAYS_WAVE:
                    readWave(into);
                    break;
                case SAYS_ITEM:
                    readItem(into);
                    break;
                case SAYS_ORDER:
                    readOrder(into);
                    break;
                default:
                    fail(UNFIT);
            }
            readClose();
            into.lines++;
        }

        private void readHoles(Text into) {
            if (into.holesTold) {
                fail(TWICE);
                return;
            }
            into.holesTold = true;
            advance();
            into.holes = readNumber(1, HOLES);
        }

        private void readWave(Text into) {
            if (into.waveTold) {
                fail(TWICE);
                return;
            }
            into.waveTold = true;
            advance();
            into.waveOrders = readNumber(1, WAVE_ORDERS);
            into.waveUnits = readNumber(1, WAVE_UNITS);
        }

        private void readItem(Text into) {
            if (into.items >= ITEMS) {
                fail(TOO_MANY);
                return;
            }
            advance();
            int name = readNewName(into);
            int placeOfIt = readNumber(0, 99);
            int stockOfIt = readNumber(0, STOCK_OF_ITEM);
            if (fault == 0) {
                into.addItem(name, placeOfIt, stockOfIt);
            }
        }

        private void readOrder(Text into) {
            if (into.orders >= ORDERS) {
                fail(TOO_MANY);
                return;
            }
            advance();
            int name = readNewName(into);
            int due = readNumber(0, 99);
            if (fault != 0) {
                return;
            }
            int order = into.orders;
            into.addOrder(name, due);
            // One behind six is read too: which fault it is hangs on its name.
            for (int i = 0; i <= ITEMS_OF_ORDER && fault == 0 && (i == 0 || kind != CLOSE); i++) {
                int item = readItemOf(into, into.itemsOf[order]);
                int units = readNumber(1, UNITS_OF_LINE);
                if (fault == 0) {
                    into.addUnits(order, item, units);
                }
            }
        }

        private int readItemOf(Text into, int itemsSoFar) {
            if (!isName()) {
                fail(UNFIT);
                return NONE;
            }
            int item = into.itemNamed(value);
            if (item == NONE) {
                fail(UNKNOWN);
            } else if (hasBit(itemsSoFar, item)) {
                fail(TWICE);
            } else if (Integer.bitCount(itemsSoFar) >= ITEMS_OF_ORDER) {
                fail(TOO_MANY);
            }
            advance();
            return item;
        }

        private int readNewName(Text into) {
            if (!isName()) {
                fail(UNFIT);
            } else if (into.hasName(value)) {
                fail(TWICE);
            }
            int name = value;
            advance();
            return name;
        }

        private int readNumber(int least, int most) {
            if (kind != NUMBER) {
                fail(UNFIT);
            } else if (value < least || value > most) {
                fail(CANNOT_BE);
            }
            int number = value;
            advance();
            return number;
        }

        private void readClose() {
            if (kind != CLOSE) {
                fail(UNFIT);
            }
            advance();
        }

        private boolean isName() {
            return kind == WORD && value != SAYS_HOLES && value != SAYS_WAVE && value != SAYS_ITEM
                    && value != SAYS_ORDER;
        }

        private void fail(int kindOfFault) {
            if (fault == 0) {
                fault = 8 * place + kindOfFault;
            }
        }

        private void advance() {
            if (fault != 0) {
                return;
            }
            while (at < length && kindOf(bytes[at]) == BLANK) {
                at++;
            }
            place = at;
            value = 0;
            if (at >= length) {
                kind = END;
                return;
            }
            kind = kindOf(bytes[at]);
            if (kind == WORD) {
                readRun('a', 'z', WORD_LETTERS);
            } else if (kind == NUMBER) {
                readRun('0', '9', NUMBER_DIGITS);
            } else {
                at++;
            }
        }

        private void readRun(int first, int last, int longest) {
            int end = at;
            for (; end < length && bytes[end] >= first && bytes[end] <= last; end++) {
                if (end - at < longest) {
                    value = kind == WORD ? value * 32 + bytes[end] - 'a' + 1 : value * 10 + bytes[end] - '0';
                }
            }
            if (end - at > longest) {
                kind = NO_TOKEN;
            }
            at = end;
        }

        private static int kindOf(int sign) {
            if (sign >= 'a' && sign <= 'z') {
                return WORD;
            }
            if (sign >= '0' && sign <= '9') {
                return NUMBER;
            }
            if (sign == ';') {
                return CLOSE;
            }
            return sign == 32 || sign == 10 ? BLANK : NO_TOKEN;
        }
    }

    /** All that acts change: stock, orders, the belt, units aside, the wall. */
    private static final class Floor {
        final int[] stock = new int[ITEMS];
        final int[] how = new int[ORDERS];
        final int[] holeOf = new int[ORDERS];
        final int[] orderIn = new int[HOLES];
        final int[] has = new int[ORDERS * ITEMS];
        final int[] late = new int[ORDERS * ITEMS];
        final int[] wholes = new int[ORDERS];
        int wholeCount = 0;
        final int[] belt = new int[ALL_UNITS];
        int beltFirst = 0;
        int beltEnd = 0;
        final int[] side = new int[ALL_UNITS];
        int onSide = 0;

        Floor() {
            Arrays.fill(holeOf, NONE);
            Arrays.fill(orderIn, NONE);
        }

        void begin(Text text) {
            System.arraycopy(text.firstStock, 0, stock, 0, ITEMS);
            Arrays.fill(how, WAITS);
            Arrays.fill(holeOf, NONE);
            Arrays.fill(orderIn, NONE);
            Arrays.fill(has, 0);
            Arrays.fill(late, 0);
            wholeCount = 0;
            beltFirst = 0;
            beltEnd = 0;
            onSide = 0;
        }

        void copyFrom(Floor other) {
            System.arraycopy(other.stock, 0, stock, 0, ITEMS);
            System.arraycopy(other.how, 0, how, 0, ORDERS);
            System.arraycopy(other.holeOf, 0, holeOf, 0, ORDERS);
            System.arraycopy(other.orderIn, 0, orderIn, 0, HOLES);
            System.arraycopy(other.has, 0, has, 0, ORDERS * ITEMS);
            System.arraycopy(other.late, 0, late, 0, ORDERS * ITEMS);
            System.arraycopy(other.wholes, 0, wholes, 0, ORDERS);
            wholeCount = other.wholeCount;
            System.arraycopy(other.belt, 0, belt, 0, ALL_UNITS);
            beltFirst = other.beltFirst;
            beltEnd = other.beltEnd;
            System.arraycopy(other.side, 0, side, 0, ALL_UNITS);
            onSide = other.onSide;
        }

        int waiting(Text text) {
            int bits = 0;
            for (int order = 0; order < text.orders; order++) {
                if (how[order] == WAITS) {
                    bits |= 1 << order;
                }
            }
            return bits;
        }

        int lateOfItem(int item) {
            int sum = 0;
            for (int order = 0; order < ORDERS; order++) {
                sum += late[cell(order, item)];
            }
            return sum;
        }

        int lateOfAll() {
            int sum = 0;
            for (int order = 0; order < ORDERS; order++) {
                sum += sumOfOrder(late, order);
            }
            return sum;
        }

        int onBelt() {
            return beltEnd - beltFirst;
        }

        int freeHoles(Text text) {
            int free = 0;
            for (int hole = 0; hole < text.holes; hole++) {
                if (orderIn[hole] == NONE) {
                    free++;
                }
            }
            return free;
        }

        boolean isStuck(Text text, int order) {
            return how[order] == HAS_HOLE
                    && sumOfOrder(has, order) + sumOfOrder(late, order) == text.total[order];
        }

        void letGo(Text text, Plan plan) {
            for (int order = 0; order < text.orders; order++) {
                if (hasBit(plan.orders, order)) {
                    how[order] = RELEASED;
                    for (int item = 0; item < text.items; item++) {
                        int at = cell(order, item);
                        late[at] = text.need[at] - plan.share[at];
                    }
                }
            }
            for (int i = 0; i < plan.picks; i++) {
                int item = plan.itemOf[i];
                stock[item] -= plan.unitsOf[i];
                for (int e = 0; e < text.orders; e++) {
                    int at = cell(text.early[e], item);
                    putOnBelt(at, plan.share[at]);
                }
            }
        }

        int takeFromBelt(Text text, int most) {
            int came = 0;
            while (came < most && beltFirst < beltEnd) {
                int unit = belt[beltFirst];
                beltFirst++;
                came++;
                if (!canCome(text, orderOfUnit(unit))) {
                    putAside(unit);
                } else if (come(text, unit)) {
                    settleAside(text);
                }
            }
            return came;
        }

        int bringStock(Text text, int item, int n) {
            stock[item] = Math.min(stock[item] + n, STOCK_OF_ITEM);
            int came = 0;
            for (int e = 0; e < text.orders; e++) {
                int at = cell(text.early[e], item);
                int units = Math.min(late[at], stock[item]);
                late[at] -= units;
                stock[item] -= units;
                putOnBelt(at, units);
                came += units;
            }
            return came;
        }

        int putBy(Text text, int order) {
            int hole = holeOf[order];
            how[order] = PUT_BY;
            leaveHole(order);
            settleAside(text);
            return hole;
        }

        private void putOnBelt(int unit, int times) {
            for (int i = 0; i < times && beltEnd < ALL_UNITS; i++) {
                belt[beltEnd] = unit;
                beltEnd++;
            }
        }

        private void putAside(int unit) {
            if (onSide < ALL_UNITS) {
                side[onSide] = unit;
                onSide++;
            }
        }

        private int firstFreeHole(Text text) {
            for (int hole = 0; hole < text.holes; hole++) {
                if (orderIn[hole] == NONE) {
                    return hole;
                }
            }
            return NONE;
        }

        private boolean canCome(Text text, int order) {
            return how[order] == HAS_HOLE || how[order] == PUT_BY || firstFreeHole(text) != NONE;
        }

        /** Whether a hole comes to be free by it. */
        private boolean come(Text text, int unit) {
            int order = orderOfUnit(unit);
            if (how[order] == RELEASED) {
                takeHole(order, firstFreeHole(text));
            }
            has[unit]++;
            if (sumOfOrder(has, order) < text.total[order]) {
                return false;
            }
            how[order] = IS_WHOLE;
            if (wholeCount < ORDERS) {
                wholes[wholeCount] = order;
                wholeCount++;
            }
            return leaveHole(order);
        }

        private void takeHole(int order, int hole) {
            if (hole != NONE) {
                orderIn[hole] = order;
                holeOf[order] = hole;
                how[order] = HAS_HOLE;
            }
        }

        private boolean leaveHole(int order) {
            int hole = holeOf[order];
            if (hole == NONE) {
                return false;
            }
            orderIn[hole] = NONE;
            holeOf[order] = NONE;
            return true;
        }

        // A going-through that is followed by another took a unit away, so they end.
        private void settleAside(Text text) {
            for (int i = 0; i <= ALL_UNITS; i++) {
                if (!goThroughAside(text)) {
                    return;
                }
            }
        }

        /**
         * Whether a unit came. A hole that comes to be free here is for the
         * first one aside, not for the next, so all behind stay till then.
         */
        private boolean goThroughAside(Text text) {
            int were = onSide;
            int stay = 0;
            boolean freed = false;
            for (int i = 0; i < were; i++) {
                int unit = side[i];
                if (!freed && canCome(text, orderOfUnit(unit))) {
                    freed = come(text, unit);
                } else {
                    side[stay] = unit;
                    stay++;
                }
            }
            onSide = stay;
            return stay < were;
        }
    }

    /** The next wave, its picks and how it would go through. */
    private static final class Plan {
        int orders = 0;
        int picks = 0;
        final int[] itemOf = new int[ITEMS];
        final int[] unitsOf = new int[ITEMS];
        // Units of picks that are each order's, by cells.
        final int[] share = new int[ORDERS * ITEMS];
        final int[] bestItem = new int[BEST_PICKS];
        // For picks that came already, as bits, the least needs of those that come yet.
        private final int[] least = new int[1 << BEST_PICKS];
        private final int[] byNumber = new int[ITEMS];
        // Items of which an order gets some, as bits; and whether it gets all that it needs.
        private final int[] gets = new int[ORDERS];
        private final boolean[] getsAll = new boolean[ORDERS];

        void make(Text text, Floor floor) {
            orders = text.gather(floor.waiting(text), text.waveOrders);
            picks = 0;
            Arrays.fill(share, 0);
            for (int item = 0; item < text.items; item++) {
                int units = Math.min(needOf(text, item), floor.stock[item]);
                if (units > 0) {
                    addPick(text, item, units);
                    shareOut(text, item, units);
                }
            }
            for (int order = 0; order < text.orders; order++) {
                lookAtShare(text, order);
            }
        }

        int distance(Text text) {
            int sum = 0;
            int from = 0;
            for (int i = 0; i < picks; i++) {
                int to = text.place[itemOf[i]];
                sum += Math.abs(to - from);
                from = to;
            }
            return sum + from;
        }

        int needsAsPicked(Text text) {
            int most = 0;
            int came = 0;
            for (int i = 0; i < picks; i++) {
                most = Math.max(most, peak(text, came, itemOf[i]));
                came |= 1 << itemOf[i];
            }
            return most;
        }

        /**
         * The least needs; bestItem has the order. Which holes are taken hangs
         * on which picks came, not on their order, so sets of picks are enough.
         */
        int findBest(Text text) {
            if (picks > BEST_PICKS) {
                return NONE;
            }
            sortByNumber();
            int all = (1 << picks) - 1;
            least[all] = 0;
            for (int came = all - 1; came >= 0; came--) {
                least[came] = picks + ORDERS;
                for (int i = 0; i < picks; i++) {
                    if (!hasBit(came, i)) {
                        least[came] = Math.min(least[came], needsBy(text, came, i));
                    }
                }
            }
            int came = 0;
            for (int i = 0; i < picks; i++) {
                int next = firstWithin(text, came, least[0]);
                bestItem[i] = byNumber[next];
                came |= 1 << next;
            }
            return least[0];
        }

        private int needOf(Text text, int item) {
            int units = 0;
            for (int order = 0; order < text.orders; order++) {
                if (hasBit(orders, order)) {
                    units += text.need[cell(order, item)];
                }
            }
            return units;
        }

        // Items come by their numbers, so of like places the less number stays ahead.
        private void addPick(Text text, int item, int units) {
            int at = picks;
            for (; at > 0 && text.place[itemOf[at - 1]] > text.place[item]; at--) {
                itemOf[at] = itemOf[at - 1];
                unitsOf[at] = unitsOf[at - 1];
            }
            itemOf[at] = item;
            unitsOf[at] = units;
            picks++;
        }

        private void shareOut(Text text, int item, int units) {
            int left = units;
            for (int e = 0; e < text.orders; e++) {
                int order = text.early[e];
                if (hasBit(orders, order)) {
                    int given = Math.min(left, text.need[cell(order, item)]);
                    share[cell(order, item)] = given;
                    left -= given;
                }
            }
        }

        private void lookAtShare(Text text, int order) {
            gets[order] = 0;
            for (int item = 0; item < text.items; item++) {
                if (share[cell(order, item)] > 0) {
                    gets[order] |= 1 << item;
                }
            }
            getsAll[order] = sumOfOrder(share, order) == text.total[order];
        }

        private boolean isWholeBehind(int order, int came) {
            return getsAll[order] && (gets[order] & ~came) == 0;
        }

        private boolean holdsBehind(int order, int came) {
            return (gets[order] & came) != 0 && !isWholeBehind(order, came);
        }

        /** The most holes at once while a pick's units come, those of some items having come. */
        private int peak(Text text, int came, int item) {
            int held = 0;
            for (int order = 0; order < text.orders; order++) {
                if (holdsBehind(order, came)) {
                    held++;
                }
            }
            int most = held;
            for (int e = 0; e < text.orders; e++) {
                int order = text.early[e];
                if (!hasBit(gets[order], item)) {
                    continue;
                }
                if (!holdsBehind(order, came)) {
                    held++;
                }
                most = Math.max(most, held);
                if (isWholeBehind(order, came | 1 << item)) {
                    held--;
                }
            }
            return most;
        }

        private void sortByNumber() {
            for (int i = 0; i < picks; i++) {
                int at = i;
                for (; at > 0 && byNumber[at - 1] > itemOf[i]; at--) {
                    byNumber[at] = byNumber[at - 1];
                }
                byNumber[at] = itemOf[i];
            }
        }

        private int needsBy(Text text, int came, int next) {
            int itemsCame = 0;
            for (int i = 0; i < picks; i++) {
                if (hasBit(came, i)) {
                    itemsCame |= 1 << byNumber[i];
                }
            }
            return Math.max(peak(text, itemsCame, byNumber[next]), least[came | 1 << next]);
        }

        private int firstWithin(Text text, int came, int most) {
            for (int i = 0; i < picks; i++) {
                if (!hasBit(came, i) && needsBy(text, came, i) <= most) {
                    return i;
                }
            }
            return 0;
        }
    }
}
