/** Promises 8 to 11: wave, pick, walk, cost. */
public final class NextWaveTest {
    private static final Check CHECK = new Check("NextWaveTest");
    private static final int NO_INT = Integer.MIN_VALUE;
    private static final String ITEMS = "item a 30 5;item b 10 4;item c 10 0;item d 50 9;";
    private static final String TEXT = "holes 2;wave 3 12;" + ITEMS
            + "order p 5 a 2 b 1;order q 3 a 4;order r 5 b 2 d 1;order s 9 c 1 d 2;order t 3 d 5;";

    public static void main(String[] args) {
        ordinary();
        whoComesFirst();
        whoJoins();
        limits();
        places();
        costs();
        CHECK.end();
    }

    private static void ordinary() {
        WaveWall x = Check.told(TEXT);
        CHECK.due("wave()", x.wave(), 0b00111);
        picks(x, new int[][] {{1, 3}, {0, 5}, {3, 1}});
        CHECK.due("walk()", x.walk(), 100);
        CHECK.due("release()", x.release(), 3);
        CHECK.due("wave() behind it", x.wave(), 0b11000);
        picks(x, new int[][] {{3, 7}});
        CHECK.due("walk() behind it", x.walk(), 100);
        CHECK.due("release()", x.release(), 2);
        CHECK.due("wave() of none", x.wave(), 0);
        picks(x, new int[][] {});
        CHECK.due("walk() of none", x.walk(), 0);
        CHECK.due("cost() of none", x.cost(Integer.MAX_VALUE, Integer.MIN_VALUE), 0);
    }

    private static void whoComesFirst() {
        wave("wave 1 60;" + ITEMS + "order p 5 a 1;order q 4 a 1;order r 4 a 1;", 0b010);
        wave("wave 1 60;" + ITEMS + "order p 0 a 1;order q 0 a 1;", 0b01);
        wave("wave 1 60;" + ITEMS + "order p 99 a 1;order q 9 a 1;", 0b10);
        // the earliest comes even with more units than a wave may have
        wave("wave 4 5;" + ITEMS + "order p 1 a 6;order q 2 a 1;", 0b01);
        wave(ITEMS, 0);
    }

    private static void whoJoins() {
        // the most shared items, though it has more others and is later
        wave("wave 2 60;" + ITEMS + "order p 1 a 1 b 1;order q 2 a 1;order r 9 a 1 b 1 c 1 d 1;", 0b101);
        // of like ones the fewest others
        wave("wave 2 60;" + ITEMS + "order p 1 a 1 b 1;order q 2 a 1 c 1;order r 9 b 9;", 0b101);
        // of like ones the earlier
        wave("wave 2 60;" + ITEMS + "order p 1 a 1;order q 3 a 1;order r 2 a 1;", 0b101);
        wave("wave 2 60;" + ITEMS + "order p 1 a 1;order q 2 a 1;order r 2 a 1;", 0b011);
        // without any shared item too
        wave("wave 2 60;" + ITEMS + "order p 1 a 1;order q 2 b 1 c 1;order r 3 d 1;", 0b101);
        // items of all that are in it: r is like q, which came by a
        wave("wave 3 60;" + ITEMS + "order p 1 a 1;order q 9 a 1 d 1;order r 8 d 1;order s 2 b 1;", 0b0111);
        // stock of an item means nothing for who joins
        wave("wave 2 60;" + ITEMS + "order p 1 c 1;order q 2 a 1;order r 3 c 1;", 0b101);
    }

    private static void limits() {
        wave("wave 2 60;" + ITEMS + "order p 1 a 1;order q 2 a 1;order r 3 a 1;", 0b011);
        wave("wave 8 60;" + ITEMS + "order p 1 a 1;order q 2 a 1;order r 3 a 1;", 0b111);
        wave("wave 8 9;" + ITEMS + "order p 1 a 5;order q 2 a 4;", 0b11);
        wave("wave 8 8;" + ITEMS + "order p 1 a 5;order q 2 a 4;", 0b01);
        // one that does not fit is passed over
        wave("wave 8 8;" + ITEMS + "order p 1 a 5;order q 2 a 2 b 2;order r 3 d 3;", 0b101);
        // four orders and 30 units without a line
        wave(ITEMS + "order p 1 a 1;order q 1 a 1;order r 1 a 1;order s 1 a 1;order t 1 a 1;", 0b01111);
        wave(ITEMS + "order p 1 a 9;order q 1 a 9;order r 1 a 9;order s 1 a 4;order t 1 a 3;", 0b10111);
    }

    private static void places() {
        WaveWall x = Check.told("wave 4 60;item a 7 9;item b 7 9;item c 0 9;item d 99 1;item e 3 0;"
                + "order p 1 e 9 d 3 b 1;order q 1 c 2 a 9 b 8;order r 1 a 1;");
        picks(x, new int[][] {{2, 2}, {0, 9}, {1, 9}, {3, 1}});
        CHECK.due("walk()", x.walk(), 198);
        x = Check.told("item a 0 9;order p 1 a 1;");
        picks(x, new int[][] {{0, 1}});
        CHECK.due("walk() to 0", x.walk(), 0);
        x = Check.told("item a 5 0;order p 1 a 1;");
        CHECK.due("wave() without stock", x.wave(), 1);
        picks(x, new int[][] {});
        CHECK.due("walk() without picks", x.walk(), 0);
        x.stock(0, 1);
        picks(x, new int[][] {{0, 1}});
        CHECK.due("walk() with stock", x.walk(), 10);
    }

    private static void costs() {
        WaveWall x = Check.told("item a 1 9;item b 2 9;order p 1 a 1 b 1;");
        // two picks, a walk of 4
        CHECK.due("cost(0, 0)", x.cost(0, 0), 0);
        CHECK.due("cost(3, 5)", x.cost(3, 5), 26);
        CHECK.due("cost(-3, 5)", x.cost(-3, 5), 14);
        CHECK.due("cost(2^30, 0)", x.cost(1 << 30, 0), NO_INT);
        CHECK.due("cost(2^30 - 1, 0)", x.cost((1 << 30) - 1, 0), Integer.MAX_VALUE - 1);
        CHECK.due("cost(-2^30, 0)", x.cost(-(1 << 30), 0), Integer.MIN_VALUE);
        CHECK.due("cost(-2^30, 1)", x.cost(-(1 << 30), 1), Integer.MIN_VALUE + 4);
        CHECK.due("cost(-2^30 - 1, 1)", x.cost(-(1 << 30) - 1, 1), NO_INT);
        CHECK.due("cost(0, 2^29)", x.cost(0, 1 << 29), NO_INT);
        CHECK.due("cost(-1, 2^29)", x.cost(-1, 1 << 29), NO_INT);
        CHECK.due("cost(0, 2^29 - 1)", x.cost(0, (1 << 29) - 1), Integer.MAX_VALUE - 3);
        CHECK.due("cost(1, 2^29 - 1)", x.cost(1, (1 << 29) - 1), Integer.MAX_VALUE - 1);
        CHECK.due("cost(2, 2^29 - 1)", x.cost(2, (1 << 29) - 1), NO_INT);
        CHECK.due("cost(max, max)", x.cost(Integer.MAX_VALUE, Integer.MAX_VALUE), NO_INT);
        CHECK.due("cost(min, max)", x.cost(Integer.MIN_VALUE, Integer.MAX_VALUE), NO_INT);
    }

    private static void wave(String text, int bits) {
        CHECK.due("wave() of " + text, Check.told(text).wave(), bits);
    }

    private static void picks(WaveWall x, int[][] due) {
        CHECK.due("pick(-1, 0)", x.pick(-1, 0), due.length);
        CHECK.due("pick(-1, 7)", x.pick(-1, 7), due.length);
        CHECK.due("pick(-1, min)", x.pick(-1, Integer.MIN_VALUE), due.length);
        for (int i = 0; i < due.length; i++) {
            CHECK.due("pick(" + i + ", 0)", x.pick(i, 0), due[i][0]);
            CHECK.due("pick(" + i + ", 1)", x.pick(i, 1), due[i][1]);
            CHECK.due("pick(" + i + ", 2)", x.pick(i, 2), -2);
            CHECK.due("pick(" + i + ", -1)", x.pick(i, -1), -2);
        }
        for (int i : new int[] {due.length, 10, 11, -2, Integer.MIN_VALUE, Integer.MAX_VALUE}) {
            CHECK.due("pick(" + i + ", 0)", x.pick(i, 0), -2);
        }
    }
}
