/** The largest texts, rows and numbers there can be, and one object told many texts. */
public final class FullTest {
    private static final Check CHECK = new Check("FullTest");

    public static void main(String[] args) {
        mostUnits();
        mostAside();
        mostOrdersAndItems();
        mostWaves();
        manyTexts();
        rowsOfKeeps();
        anyArguments();
        CHECK.end();
    }

    /** Sixteen orders with nine units of each of six items. */
    private static String largest(String head) {
        StringBuilder text = new StringBuilder(head);
        for (char item = 'a'; item <= 'f'; item++) {
            text.append("item ").append(item).append("1 99;");
        }
        for (char order = 'g'; order <= 'v'; order++) {
            text.append("order ").append(order).append("1a9b9c9d9e9f9;");
        }
        return text.toString();
    }

    private static void mostUnits() {
        WaveWall x = Check.told(largest("wave 1 60;holes 8;"));
        for (int i = 0; i < 16; i++) {
            CHECK.due("release() " + i, x.release(), 1);
        }
        CHECK.due("belt", x.belt(-1, 0), 594);
        CHECK.due("late", x.count(5), 270);
        for (int item = 0; item < 6; item++) {
            CHECK.due("stock(" + item + ", 99)", x.stock(item, 99), 45);
            CHECK.due("item(" + item + ", 1)", x.item(item, 1), 54);
        }
        CHECK.due("belt", x.belt(-1, 0), 864);
        CHECK.due("the last unit's order", x.belt(863, 0), 15);
        CHECK.due("the last unit's item", x.belt(863, 1), 5);
        CHECK.due("wouldBe()", x.wouldBe(), 16);
        for (int left = 664; left > 0; left -= 200) {
            CHECK.due("step(200)", x.step(200), 200);
            CHECK.due("belt", x.belt(-1, 0), left);
        }
        CHECK.due("step(200)", x.step(200), 64);
        CHECK.due("whole", x.whole(-1), 16);
        CHECK.due("whole(15)", x.whole(15), 15);
        CHECK.due("free", x.count(3), 8);
        CHECK.due("undo()", x.undo(), 11);
        CHECK.due("belt", x.belt(-1, 0), 64);
    }

    private static void mostAside() {
        WaveWall x = Check.told(largest("holes 1;wave 1 60;"));
        for (int i = 0; i < 16; i++) {
            x.release();
        }
        for (int item = 0; item < 6; item++) {
            x.stock(item, 45);
        }
        CHECK.due("step(1)", x.step(1), 1);
        CHECK.due("by(0)", x.by(0), 0);
        // the first is by, so the second has the hole from its first unit to its last
        x.step(200);
        CHECK.due("whole", x.whole(-1), 3);
        x.step(200);
        x.step(200);
        // eleven came whole; the twelfth has the hole by its first late ones and waits for the others
        CHECK.due("whole", x.whole(-1), 11);
        CHECK.due("hole(0)", x.hole(0), 11);
        CHECK.due("aside", x.aside(-1, 0), 0);
        x.step(200);
        // late ones came item by item: of 207 the twelfth has nine of each of five items
        CHECK.due("hole(0)", x.hole(0), 11);
        CHECK.due("aside", x.aside(-1, 0), 162);
        CHECK.due("wouldBe()", x.wouldBe(), 16);
        CHECK.due("step(200)", x.step(200), 63);
        CHECK.due("aside", x.aside(-1, 0), 0);
        CHECK.due("whole", x.whole(-1), 16);
    }

    private static void mostOrdersAndItems() {
        StringBuilder text = new StringBuilder("wave 8 60;holes 8;");
        for (int item = 0; item < 10; item++) {
            text.append("item ").append((char) ('a' + item)).append(' ').append(90 - item).append(" 99;");
        }
        for (int order = 0; order < 16; order++) {
            text.append("order o").append((char) ('a' + order)).append(99 - order).append((char) ('a' + order % 10))
                    .append("2;");
        }
        WaveWall x = Check.told(text.toString());
        // the last is earliest; the one ten ahead of it has its item; then the last but one, and so on
        CHECK.due("wave()", x.wave(), 0b1111_0000_0011_1100);
        all(x);
        CHECK.due("release()", x.release(), 8);
        CHECK.due("wave() behind it", Integer.bitCount(x.wave()), 8);
        all(x);
        CHECK.due("release()", x.release(), 8);
        all(x);
        CHECK.due("belt", x.belt(-1, 0), 32);
        CHECK.due("step(200)", x.step(200), 32);
        CHECK.due("whole", x.whole(-1), 16);
        all(x);
    }

    /** Every call with every small argument: nothing but what is promised may be thrown. */
    private static void all(WaveWall x) {
        long sum = x.wave() + x.walk() + x.stuck() + x.needs() + x.bestSize() + x.wouldBe() + x.cost(3, 4);
        for (int a = -3; a < 20; a++) {
            sum += x.hole(a) + x.whole(a) + x.best(a) + x.count(a);
            for (int b = -3; b < 20; b++) {
                sum += x.item(a, b) + x.alike(a, b) + x.pick(a, b) + x.belt(a, b) + x.aside(a, b) + x.sizes(a, b);
                sum += Check.order(x, a, b);
                for (int c = -1; c < 4; c++) {
                    sum += x.units(a, b, c);
                }
            }
        }
        CHECK.due("answers", sum == 0.5, false);
    }

    private static void mostWaves() {
        StringBuilder text = new StringBuilder("item a 1 9;");
        for (int order = 0; order < 16; order++) {
            text.append("order o").append((char) ('a' + order)).append("1a1;");
        }
        WaveWall x = Check.told(text.toString());
        CHECK.due("sizes(1, 0)", x.sizes(1, 0), 16);
        CHECK.due("sizes(1, 1)", x.sizes(1, 1), 16);
        CHECK.due("sizes(3, 0)", x.sizes(3, 0), 6);
        CHECK.due("sizes(7, 1)", x.sizes(7, 1), 3);
        CHECK.due("sizes(8, 1)", x.sizes(8, 1), 2);
        CHECK.due("bestSize()", x.bestSize(), 8);
        x = Check.told("item a 0 9;order p 1 a 1;");
        CHECK.due("cost(max, 0)", x.cost(Integer.MAX_VALUE, 0), Integer.MAX_VALUE);
        CHECK.due("cost(max, max): a walk of 0", x.cost(Integer.MAX_VALUE, Integer.MAX_VALUE), Integer.MAX_VALUE);
        x.release();
        CHECK.due("cost() is of the wave there is now", x.cost(5, 5), 0);
    }

    private static void manyTexts() {
        WaveWall x = new WaveWall();
        String[] texts = {"holes 8;wave 7 50;item a 1 9;item b 2 9;order p 1 a 1 b 2;order q 1 b 3;",
            "item b 2 1;order p 9 b 1;", "holes 2;wave 2 2;item x 1 1;", "", "item q 5 5;order a 1 q 9;order b 0 q 3;"};
        int[][] counts = {{2, 2, 8, 8, 2, 0, 0, 0, 7, 50}, {1, 1, 4, 4, 1, 0, 0, 0, 4, 30},
            {1, 0, 2, 2, 0, 0, 0, 0, 2, 2}, {0, 0, 4, 4, 0, 0, 0, 0, 4, 30}, {1, 2, 4, 4, 2, 0, 0, 0, 4, 30}};
        int[] lines = {6, 2, 3, 0, 3};
        int[][] totals = {{3, 3}, {1}, {}, {}, {9, 3}};
        for (int round = 0; round < 11; round++) {
            int t = round * 3 % 5;
            CHECK.due("a fault between", Check.tell(x, "holes 1;wave 1 1;item z 1 1;order y 1 z 1;?") < -1, true);
            CHECK.due("wall of " + texts[t], Check.tell(x, texts[t]), lines[t]);
            for (int what = 0; what < 10; what++) {
                CHECK.due("count(" + what + ") of " + texts[t], x.count(what), counts[t][what]);
            }
            for (int order = 0; order < totals[t].length; order++) {
                CHECK.due("order(" + order + ", 1)", Check.order(x, order, 1), totals[t][order]);
                CHECK.due("order(" + order + ", 5)", Check.order(x, order, 5), -1);
            }
            CHECK.due("aside", x.aside(-1, 0), 0);
            int items = 0;
            for (int order = 0; order < totals[t].length; order++) {
                items = Math.max(items, x.alike(order, order));
            }
            CHECK.due("items of an order", items, t == 0 ? 2 : totals[t].length > 0 ? 1 : 0);
            x.release();
            x.step(2);
        }
        // told while an order has a hole and another is aside
        Check.tell(x, "holes 1;item a 1 9;item b 2 9;order p 1 a 1 b 1;order q 1 a 1 b 1;");
        x.release();
        x.step(2);
        CHECK.due("aside", x.aside(-1, 0), 1);
        Check.tell(x, "holes 1;item a 1 9;item b 2 9;order p 1 a 1 b 1;order q 1 a 1 b 1;");
        CHECK.due("aside", x.aside(-1, 0), 0);
        CHECK.due("order(0, 5)", Check.order(x, 0, 5), -1);
        CHECK.due("hole(0)", x.hole(0), -1);
        // a line of a text two ahead is gone
        Check.tell(x, "item a 1 9;item b 2 9;order p 1 a 1 b 7;");
        Check.tell(x, "");
        Check.tell(x, "item a 1 9;item b 2 9;order p 1 a 1;");
        CHECK.due("units(0, 1, 0)", x.units(0, 1, 0), 0);
        CHECK.due("units(0, 0, 0)", x.units(0, 0, 0), 1);
        CHECK.due("walk()", x.walk(), 2);
        Check.tell(x, "item a 9 9;order p 1 a 1;");
        CHECK.due("walk() first of all calls", x.walk(), 18);
    }

    /** Keeps with unlike orders whole and unlike units aside. */
    private static void rowsOfKeeps() {
        String text = "holes 1;wave 1 60;item a 1 9;item b 1 9;item c 1 9;order p 1 a 1;order q 2 b 2 c 1;order r 3 c 1;";
        WaveWall x = Check.told(text);
        x.release();
        x.release();
        x.release();
        x.keep(0, false);
        x.step(3);
        x.by(1);
        x.step(2);
        // p, then q by its third, then r
        CHECK.due("whole(0)", x.whole(0), 0);
        CHECK.due("whole(1)", x.whole(1), 1);
        CHECK.due("whole(2)", x.whole(2), 2);
        x.keep(1, false);
        x.keep(0, true);
        CHECK.due("whole(-1)", x.whole(-1), 0);
        Check.tell(x, text.replace("order p 1 a 1;", "order p 9 a 1;"));
        x.release();
        x.release();
        x.step(4);
        CHECK.due("whole(0)", x.whole(0), 1);
        x.keep(0, false);
        x.release();
        x.step(1);
        x.keep(1, false);
        x.keep(0, true);
        CHECK.due("whole(-1)", x.whole(-1), 2);
        CHECK.due("whole(0)", x.whole(0), 1);
        x.keep(1, true);
        CHECK.due("whole(2)", x.whole(2), 0);
        Check.tell(x, "item a 1 0;item b 1 0;order p 1 a 1;order q 1 b 1;");
        x.release();
        x.keep(0, false);
        x.stock(0, 1);
        x.step(1);
        x.keep(1, false);
        x.keep(0, true);
        x.stock(1, 1);
        x.step(1);
        CHECK.due("whole(0): q", x.whole(0), 1);
        x.keep(1, true);
        CHECK.due("whole(0): p", x.whole(0), 0);
        WaveWall y = Check.told("holes 1;item a 1 9;item b 2 9;order p 1 a 1 b 1;order q 2 a 2 b 1;order r 3 a 1 b 1;");
        y.release();
        y.step(3);
        y.keep(0, false);
        y.step(1);
        CHECK.due("aside", y.aside(-1, 0), 3);
        y.step(1);
        CHECK.due("aside behind", y.aside(0, 0), 2);
        y.keep(0, true);
        CHECK.due("aside(-1, 0)", y.aside(-1, 0), 2);
        CHECK.due("aside(0, 0)", y.aside(0, 0), 1);
        CHECK.due("aside(1, 0)", y.aside(1, 0), 1);
    }

    /** Wild arguments on a new object, on an empty wall and on a full one. */
    private static void anyArguments() {
        int[] wild = {Integer.MIN_VALUE, Integer.MIN_VALUE + 1, -600, -17, -2, -1, 0, 1, 2, 5, 6, 9, 10, 15, 16, 17, 99,
            100, 200, 201, 600, 864, Integer.MAX_VALUE - 1, Integer.MAX_VALUE};
        WaveWall[] walls = {new WaveWall(), Check.told(""), Check.told(largest("")), Check.told(largest("holes 1;"))};
        walls[3].release();
        walls[3].step(99);
        long sum = 0;
        for (WaveWall x : walls) {
            for (int a : wild) {
                sum += x.hole(a) + x.whole(a) + x.best(a) + x.count(a) + x.by(a) + x.step(a) + x.undo();
                for (int b : wild) {
                    sum += x.item(a, b) + x.alike(a, b) + x.pick(a, b) + x.belt(a, b) + x.aside(a, b) + x.sizes(a, b);
                    sum += x.cost(a, b) + Check.order(x, a, b) + x.stock(a, b) + x.units(a, b, 0) + x.units(0, a, b);
                }
                sum += x.keep(a, true) ? 1 : 0;
                sum += x.keep(a, false) ? 1 : 0;
                sum += x.feed(a, a, a, a, a) + x.wall(a);
            }
        }
        CHECK.due("answers", sum == 0.5, false);
    }
}
