import static java.lang.Integer.MAX_VALUE;
import static java.lang.Integer.MIN_VALUE;

/** Promises 4 to 11 and their terms: a test for each sentence that names a bound; the sentence stands above it. */
public final class LookBoundsTest {
    private static final Check CHECK = new Check("LookBoundsTest");
    private static final int[] WILD = {MIN_VALUE, MIN_VALUE + 1, -100, -2, 100, 160, MAX_VALUE - 1, MAX_VALUE};
    private static final String FOUR = "item a 1 9;item b 2 9;item c 3 9;item d 4 9;";

    public static void main(String[] args) {
        noSuchItem();
        lateOfItem();
        noSuchOrder();
        howItIs();
        itsHole();
        noSuchUnits();
        unitsWithoutLine();
        alikeItems();
        noneSuchAlike();
        earlier();
        lastBitOfWave();
        noneWaits();
        asManyOrders();
        asManyUnits();
        earliestIsTooLarge();
        tillNoneSuch();
        stockAboveNone();
        needOrStock();
        likePlaces();
        pickNone();
        noSuchPick();
        fromNoneAndBack();
        noInt();
        productOrSum();
        CHECK.end();
    }

    /** Ten items at places 0, 11 to 99, with 0 to 9 of stock; sixteen orders with dues 0 to 15. */
    private static String full() {
        StringBuilder text = new StringBuilder("holes 8;wave 8 60;");
        for (int i = 0; i < 10; i++) {
            text.append("item ").append((char) ('a' + i)).append(' ').append(11 * i).append(' ').append(i).append(';');
        }
        for (int i = 0; i < 16; i++) {
            text.append("order o").append((char) ('a' + i)).append(' ').append(i).append(' ');
            text.append((char) ('a' + i % 10)).append(" 1;");
        }
        return text.toString();
    }

    /** Promise 4: "NONE: others, none such." */
    private static void noSuchItem() {
        WaveWall x = Check.told(full());
        for (int what = 0; what < 3; what++) {
            CHECK.due("item(0, " + what + ")", x.item(0, what), 0);
            CHECK.due("item(9, " + what + ")", x.item(9, what), new int[] {99, 9, 0}[what]);
            CHECK.due("item(-1, " + what + ")", x.item(-1, what), -1);
            CHECK.due("item(10, " + what + ")", x.item(10, what), -1);
            for (int wild : WILD) {
                CHECK.due("item(" + wild + ", " + what + ")", x.item(wild, what), -1);
                CHECK.due("item(" + what + ", " + wild + ")", x.item(what, wild), -1);
            }
        }
        CHECK.due("item(0, 3)", x.item(0, 3), -1);
        CHECK.due("item(9, -1)", x.item(9, -1), -1);
        CHECK.due("item(10, 3)", x.item(10, 3), -1);
        x = Check.told("item a 5 6;");
        CHECK.due("item(0, 0)", x.item(0, 0), 5);
        CHECK.due("item(1, 0)", x.item(1, 0), -1);
    }

    /** Promise 4: "2: LATE UNITS of it", with none and with the most there can be. */
    private static void lateOfItem() {
        WaveWall x = Check.told("wave 8 60;item a 1 0;item b 1 99;" + Check.orders(16, 1, 0, " b 1 a 9"));
        CHECK.due("all wait: item(0, 2)", x.item(0, 2), 0);
        for (int waves = 1; waves <= 3; waves++) {
            // six orders have 60 units
            x.release();
            CHECK.due("item(0, 2)", x.item(0, 2), 9 * Math.min(6 * waves, 16));
            CHECK.due("item(1, 2)", x.item(1, 2), 0);
        }
        CHECK.due("item(0, 1)", x.item(0, 1), 0);
        CHECK.due("item(1, 1)", x.item(1, 1), 83);
    }

    /** Promise 5: "NoSuchElementException: others, none such." */
    private static void noSuchOrder() {
        WaveWall x = Check.told(full());
        int[] last = {15, 1, 0, 0, 0, -1};
        for (int what = 0; what < 6; what++) {
            CHECK.due("order(15, " + what + ")", Check.order(x, 15, what), last[what]);
            throwsNone(x, -1, what);
            throwsNone(x, 16, what);
            for (int wild : WILD) {
                throwsNone(x, wild, what);
                throwsNone(x, what, wild);
            }
        }
        throwsNone(x, 0, -1);
        throwsNone(x, 0, 6);
        throwsNone(x, 16, 6);
        throwsNone(Check.told("item a 1 1;order o 1 a 1;"), 1, 0);
        throwsNone(Check.told("item a 1 1;"), 0, 0);
    }

    private static void throwsNone(WaveWall x, int order, int what) {
        CHECK.due("order(" + order + ", " + what + ")", Check.order(x, order, what), Check.NO_SUCH_ELEMENT);
    }

    /** Promise 5: "4: how it is (0 to 4)", with "UNITS that it has" and "LATE ones" at each. */
    private static void howItIs() {
        WaveWall x = Check.told("item a 1 2;item b 2 1;order o 1 a 3 b 1;");
        order(x, 1, 4, 0, 0, 0, -1);
        x.release();
        order(x, 1, 4, 0, 1, 1, -1);
        x.step(1);
        order(x, 1, 4, 1, 1, 2, 0);
        x.by(0);
        order(x, 1, 4, 1, 1, 3, -1);
        x.step(2);
        order(x, 1, 4, 3, 1, 3, -1);
        x.stock(0, 1);
        order(x, 1, 4, 3, 0, 3, -1);
        x.step(1);
        order(x, 1, 4, 4, 0, 4, -1);
    }

    private static void order(WaveWall x, int... due) {
        for (int what = 0; what < due.length; what++) {
            CHECK.due("order(0, " + what + ")", Check.order(x, 0, what), due[what]);
        }
    }

    /** Promise 5: "5: its HOLE (from 0; NONE)": from the first to the last there is. */
    private static void itsHole() {
        WaveWall x = Check.told("holes 8;wave 8 60;" + FOUR + Check.orders(9, 1, 1, " a 1 b 1"));
        x.release();
        for (int order = 0; order < 8; order++) {
            CHECK.due("order(" + order + ", 5) ahead", Check.order(x, order, 5), -1);
            x.step(1);
            CHECK.due("order(" + order + ", 5)", Check.order(x, order, 5), order);
        }
        CHECK.due("order(8, 5) waits", Check.order(x, 8, 5), -1);
        for (int order = 0; order < 8; order++) {
            x.step(1);
            CHECK.due("order(" + order + ", 5) behind", Check.order(x, order, 5), -1);
        }
    }

    /** Promise 6: "NONE: others, none such." */
    private static void noSuchUnits() {
        WaveWall x = Check.told(full());
        CHECK.due("units(9, 9, 0)", x.units(9, 9, 0), 1);
        CHECK.due("units(15, 5, 0)", x.units(15, 5, 0), 1);
        for (int what = 0; what < 3; what++) {
            CHECK.due("units(-1, 0, " + what + ")", x.units(-1, 0, what), -1);
            CHECK.due("units(16, 0, " + what + ")", x.units(16, 0, what), -1);
            CHECK.due("units(0, -1, " + what + ")", x.units(0, -1, what), -1);
            CHECK.due("units(1, -1, " + what + ")", x.units(1, -1, what), -1);
            CHECK.due("units(0, 10, " + what + ")", x.units(0, 10, what), -1);
            CHECK.due("units(15, 10, " + what + ")", x.units(15, 10, what), -1);
            for (int wild : WILD) {
                CHECK.due("units(" + wild + ", 0, " + what + ")", x.units(wild, 0, what), -1);
                CHECK.due("units(0, " + wild + ", " + what + ")", x.units(0, wild, what), -1);
                CHECK.due("units(0, " + what + ", " + wild + ")", x.units(0, what, wild), -1);
            }
        }
        CHECK.due("units(0, 0, -1)", x.units(0, 0, -1), -1);
        CHECK.due("units(0, 0, 3)", x.units(0, 0, 3), -1);
        CHECK.due("units(16, 10, 3)", x.units(16, 10, 3), -1);
    }

    /** Promise 6: "UNITS of an ITEM that an ORDER needs in all (what 0), has (1), that are LATE (2)": none is 0. */
    private static void unitsWithoutLine() {
        WaveWall x = Check.told("item a 1 1;item b 1 1;order o 1 b 2;");
        x.release();
        x.step(1);
        for (int what = 0; what < 3; what++) {
            CHECK.due("units(0, 0, " + what + ")", x.units(0, 0, what), 0);
            CHECK.due("units(0, 1, " + what + ")", x.units(0, 1, what), what == 0 ? 2 : 1);
        }
    }

    /** Promise 7: "In how many ITEMS two ORDERS are alike": from 0 to 6, whatever their UNITS. */
    private static void alikeItems() {
        String items = "item a 1 1;item b 1 1;item c 1 1;item d 1 1;item e 1 1;item f 1 1;item g 1 1;";
        String[] lines = {"g 1", "a 1", "b 2 a 2", "c 3 b 3 a 3", "d 4 c 4 b 4 a 4", "e 5 d 5 c 5 b 5 a 5",
            "f 6 e 6 d 6 c 6 b 6 a 6"};
        StringBuilder text = new StringBuilder(items);
        for (int i = 0; i < lines.length; i++) {
            text.append("order o").append((char) ('a' + i)).append(" 1 ").append(lines[i]).append(';');
        }
        WaveWall x = Check.told(text.toString());
        for (int order = 0; order < 7; order++) {
            for (int other = 0; other < 7; other++) {
                int due = order == 0 && other == 0 ? 1 : Math.min(order, other);
                CHECK.due("alike(" + order + ", " + other + ")", x.alike(order, other), due);
            }
        }
    }

    /** Promise 7: "NONE: none such." */
    private static void noneSuchAlike() {
        WaveWall x = Check.told(full());
        CHECK.due("alike(5, 15)", x.alike(5, 15), 1);
        CHECK.due("alike(15, 14)", x.alike(15, 14), 0);
        for (int wrong : new int[] {MIN_VALUE, -2, -1, 16, 17, MAX_VALUE}) {
            CHECK.due("alike(0, " + wrong + ")", x.alike(0, wrong), -1);
            CHECK.due("alike(" + wrong + ", 15)", x.alike(wrong, 15), -1);
            CHECK.due("alike of " + wrong + " twice", x.alike(wrong, wrong), -1);
        }
    }

    /** Terms 2: "EARLIER of two ORDERS: that with the less DUE, of like ones the one told first." */
    private static void earlier() {
        wave("wave 1 1;item a 1 1;order p 99 a 1;order q 98 a 1;order r 99 a 1;", 0b010);
        wave("wave 1 1;item a 1 1;order p 1 a 1;order q 0 a 1;", 0b10);
        wave("wave 1 1;item a 1 1;order p 0 a 1;order q 0 a 1;", 0b01);
        wave("wave 1 1;item a 1 1;order p 99 a 1;order q 99 a 1;", 0b01);
        wave("wave 1 1;item a 1 1;order p 10 a 1;order q 9 a 1;", 0b10);
        // the names and the units mean nothing
        wave("wave 1 60;item a 1 1;order z 5 a 9;order b 5 a 1;", 0b01);
    }

    /** Promise 8: "THE NEXT WAVE, as bits of ORDERS": of the first one and of the sixteenth. */
    private static void lastBitOfWave() {
        WaveWall x = Check.told("wave 1 1;item a 1 1;" + Check.orders(16, 15, -1, " a 1"));
        for (int order = 15; order >= 0; order--) {
            CHECK.due("wave()", x.wave(), 1 << order);
            CHECK.due("release()", x.release(), 1);
        }
        CHECK.due("wave()", x.wave(), 0);
    }

    /** Promise 8: "(0: none WAITS)", and what else is said of a wave then. */
    private static void noneWaits() {
        WaveWall x = Check.told("item a 1 9;order o 1 a 1;");
        CHECK.due("wave()", x.wave(), 1);
        x.release();
        for (int i = 0; i < 3; i++) {
            CHECK.due("wave()", x.wave(), 0);
            CHECK.picks(x);
            CHECK.due("walk()", x.walk(), 0);
            CHECK.due("cost(max, min)", x.cost(MAX_VALUE, MIN_VALUE), 0);
            CHECK.due("cost(min, max)", x.cost(MIN_VALUE, MAX_VALUE), 0);
            x.step(1);
        }
        x.undo();
        x.undo();
        CHECK.due("wave() of one that waits again", x.wave(), 1);
        wave("item a 1 9;", 0);
    }

    /** Terms 2: "of those with which it has no more ORDERS .. than wave tells". */
    private static void asManyOrders() {
        for (int most = 1; most <= 8; most++) {
            for (int count = 0; count <= 9; count++) {
                int due = (1 << Math.min(most, count)) - 1;
                wave("wave " + most + " 60;item a 1 1;" + Check.orders(count, 1, 1, " a 1"), due);
            }
        }
    }

    /** Terms 2: "of those with which it has no more .. UNITS (of all LINES) than wave tells". */
    private static void asManyUnits() {
        for (int most = 1; most <= 60; most++) {
            wave("wave 8 " + most + ";" + FOUR + "order p 1 a 3 b 2;order q 2 c 3 d 1;", most >= 9 ? 0b11 : 0b01);
            wave("wave 8 " + most + ";" + FOUR + "order p 1 a 9 b 9 c 9 d 3;order q 2 a 9 b 9 c 9 d 3;",
                    most == 60 ? 0b11 : 0b01);
        }
    }

    /** Terms 2: "the EARLIEST" is of the wave, even with more UNITS than wave tells; then there is none such. */
    private static void earliestIsTooLarge() {
        String two = "order p 1 a 9 b 9 c 9 d 9;order q 2 a 1;";
        for (int most : new int[] {1, 35, 36, 37}) {
            wave("wave 8 " + most + ";" + FOUR + two, most == 37 ? 0b11 : 0b01);
        }
        WaveWall x = Check.told("wave 8 1;" + FOUR + two);
        CHECK.due("release()", x.release(), 1);
        CHECK.due("belt", x.belt(-1, 0), 36);
        CHECK.due("sizes(8, 0)", x.sizes(8, 0), 1);
    }

    /** Terms 2: "till there is none such": one that does not fit is passed over, not the end. */
    private static void tillNoneSuch() {
        wave("wave 8 8;" + FOUR + "order p 1 a 5;order q 2 a 5;order r 3 a 1;order s 4 a 2;order t 5 a 1;", 0b01101);
        wave("wave 2 8;" + FOUR + "order p 1 a 5;order q 2 a 5;order r 3 a 1;order s 4 a 2;order t 5 a 1;", 0b00101);
        wave("wave 8 60;" + FOUR + "order p 1 a 5;order q 2 b 5;order r 3 c 1;order s 4 d 2;order t 5 a 1;", 0b11111);
    }

    /** Terms 2: "PICKS of a WAVE: of each ITEM of which its ORDERS need some and STOCK is above 0". */
    private static void stockAboveNone() {
        WaveWall x = Check.told("wave 2 60;item a 1 0;item b 2 1;item c 3 9;"
                + "order p 1 a 1 b 1;order q 2 a 1;order r 3 c 1;");
        CHECK.due("wave()", x.wave(), 0b011);
        CHECK.picks(x, new int[][] {{1, 1}});
        x.stock(0, 1);
        CHECK.picks(x, new int[][] {{0, 1}, {1, 1}});
        x.undo();
        CHECK.picks(x, new int[][] {{1, 1}});
    }

    /** Terms 2: "as many as they need, or STOCK, if that is less". */
    private static void needOrStock() {
        for (int stock = 0; stock <= 99; stock++) {
            WaveWall x = Check.told("item a 1 " + stock + ";order p 1 a 4;order q 2 a 6;");
            int[][] due = stock == 0 ? new int[0][] : new int[][] {{0, Math.min(stock, 10)}};
            CHECK.picks(x, due);
        }
    }

    /** Terms 2: "by PLACES, of like ones by numbers". */
    private static void likePlaces() {
        CHECK.picks(Check.told("item a 9 9;item b 0 9;item c 9 9;item d 0 9;order p 1 d 1 c 2 b 3 a 4;"),
                new int[][] {{1, 3}, {3, 1}, {0, 4}, {2, 2}});
        CHECK.picks(Check.told("item a 99 9;item b 99 9;item c 98 9;order p 1 b 1;order q 2 c 2;order r 3 a 3;"),
                new int[][] {{2, 2}, {0, 3}, {1, 1}});
    }

    /** Promise 9: "how many PICKS (i NONE, any what)": from 0 to 10. */
    private static void pickNone() {
        for (int items = 0; items <= 10; items++) {
            StringBuilder text = new StringBuilder("wave 8 60;");
            for (int i = 0; i < items; i++) {
                text.append("item ").append((char) ('a' + i)).append(" 1 1;");
            }
            for (int i = 0; i < items; i += 5) {
                text.append("order o").append((char) ('a' + i)).append(" 1");
                for (int item = i; item < Math.min(items, i + 5); item++) {
                    text.append(' ').append((char) ('a' + item)).append(" 1");
                }
                text.append(';');
            }
            WaveWall x = Check.told(text.toString());
            for (int what : new int[] {MIN_VALUE, -2, -1, 0, 1, 2, 10, MAX_VALUE}) {
                CHECK.due("pick(-1, " + what + ")", x.pick(-1, what), items);
            }
            CHECK.due("the last", x.pick(items - 1, 0), items == 0 ? 0 : items - 1);
            CHECK.due("none behind it", x.pick(items, 0), -2);
        }
    }

    /** Promise 9: "-2: others, none such." */
    private static void noSuchPick() {
        WaveWall x = Check.told("item a 1 1;item b 1 1;order o 1 a 1 b 1;");
        for (int i = 0; i < 2; i++) {
            CHECK.due("pick(" + i + ", 1)", x.pick(i, 1), 1);
            CHECK.due("pick(" + i + ", -1)", x.pick(i, -1), -2);
            CHECK.due("pick(" + i + ", 2)", x.pick(i, 2), -2);
            for (int wild : WILD) {
                CHECK.due("pick(" + wild + ", " + i + ")", x.pick(wild, i), -2);
                CHECK.due("pick(" + i + ", " + wild + ")", x.pick(i, wild), -2);
            }
            CHECK.due("pick(2, " + i + ")", x.pick(2, i), -2);
            CHECK.due("pick(-2, " + i + ")", x.pick(-2, i), -2);
        }
        CHECK.due("pick(2, 2)", x.pick(2, 2), -2);
    }

    /** Terms 2, promise 10: "from 0 to the first one too, and back to 0, all together". */
    private static void fromNoneAndBack() {
        for (int place = 0; place <= 99; place++) {
            WaveWall x = Check.told("item a " + place + " 1;order o 1 a 1;");
            CHECK.due("walk() to " + place, x.walk(), 2 * place);
            x = Check.told("item a " + place + " 1;item b 50 1;item c " + place + " 1;order o 1 a 1 b 1 c 1;");
            CHECK.due("walk() to 50, " + place, x.walk(), 2 * Math.max(place, 50));
        }
        // what is not picked is not walked to
        CHECK.due("walk()", Check.told("item a 99 0;item b 7 1;item c 98 1;order o 1 a 1 b 1;").walk(), 14);
    }

    /** Promise 11: "Integer.MIN_VALUE: a product, or the sum, is no int." */
    private static void noInt() {
        // one pick, a walk of 2
        WaveWall x = Check.told("item a 1 1;order o 1 a 1;");
        cost(x, MAX_VALUE, 0, MAX_VALUE);
        cost(x, MIN_VALUE, 0, MIN_VALUE);
        cost(x, MIN_VALUE, 1, MIN_VALUE + 2);
        cost(x, MAX_VALUE, -1, MAX_VALUE - 2);
        cost(x, 0, (1 << 30) - 1, MAX_VALUE - 1);
        cost(x, 1, (1 << 30) - 1, MAX_VALUE);
        cost(x, 2, (1 << 30) - 1, MIN_VALUE);
        cost(x, 0, 1 << 30, MIN_VALUE);
        cost(x, 0, -(1 << 30), MIN_VALUE);
        cost(x, 1, -(1 << 30), MIN_VALUE + 1);
        cost(x, -1, -(1 << 30), MIN_VALUE);
        cost(x, MAX_VALUE, 1, MIN_VALUE);
        cost(x, MIN_VALUE, -1, MIN_VALUE);
        cost(x, -1, -1, -3);
    }

    /** The same: "a product" is no int, though the sum would be one. */
    private static void productOrSum() {
        // two picks, a walk of 4
        WaveWall x = Check.told("item a 1 1;item b 2 1;order o 1 a 1 b 1;");
        cost(x, 1 << 30, -1, MIN_VALUE);
        cost(x, -(1 << 30) - 1, 1, MIN_VALUE);
        cost(x, -2, 1 << 29, MIN_VALUE);
        cost(x, 3, -(1 << 29) - 1, MIN_VALUE);
        cost(x, 1 << 30, -(1 << 29), MIN_VALUE);
        cost(x, (1 << 30) - 1, -(1 << 29), -2);
        // products that would wrap round to small numbers
        cost(x, MIN_VALUE, 0, MIN_VALUE);
        cost(x, 0, 1 << 30, MIN_VALUE);
        cost(x, 0, MIN_VALUE, MIN_VALUE);
        cost(x, MIN_VALUE, MIN_VALUE, MIN_VALUE);
        cost(x, -1, 0, -2);
        // ten picks, a walk of 198: the largest there are
        x = Check.told("item a 0 1;item b 9 1;item c 8 1;item d 7 1;item e 6 1;item f 5 1;item g 4 1;item h 3 1;"
                + "item i 2 1;item j 99 1;order p 1 a 1 b 1 c 1 d 1 e 1;order q 1 f 1 g 1 h 1 i 1 j 1;");
        cost(x, 1, 0, 10);
        cost(x, 0, 1, 198);
        cost(x, 214748364, 0, 2147483640);
        cost(x, 214748365, 0, MIN_VALUE);
        cost(x, 0, 10845877, 198 * 10845877);
        cost(x, 0, 10845878, MIN_VALUE);
        cost(x, 0, -10845877, -198 * 10845877);
        cost(x, 0, -10845878, MIN_VALUE);
    }

    private static void cost(WaveWall x, int a, int b, int due) {
        CHECK.due("cost(" + a + ", " + b + ")", x.cost(a, b), due);
    }

    private static void wave(String text, int due) {
        CHECK.due("wave() of " + text, Check.told(text).wave(), due);
    }
}
