import static java.lang.Integer.MAX_VALUE;
import static java.lang.Integer.MIN_VALUE;

/** Promises 12 to 20 and their terms: a test for each sentence that names a bound; the sentence stands above it. */
public final class ActBoundsTest {
    private static final Check CHECK = new Check("ActBoundsTest");
    private static final int[] WILD = {MIN_VALUE, MIN_VALUE + 1, -100, -2, 100, 864, MAX_VALUE - 1, MAX_VALUE};
    private static final String TWO = "item a 1 9;item b 2 9;";
    /** Sixteen orders of 54 units, and stock for eleven of them. */
    private static final String LARGEST = "item a1 99;item b1 99;item c1 99;item d1 99;item e1 99;item f1 99;"
            + Check.orders(16, 1, 0, "a9b9c9d9e9f9");

    public static void main(String[] args) {
        howManyReleased();
        noneWaits();
        releasedWithoutStock();
        lateBesides();
        behindAllOnBelt();
        stepBounds();
        stepsOfMany();
        emptyBelt();
        noneFree();
        leastFreeHole();
        holeForOneUnit();
        allUnits();
        putByToWhatItHas();
        goneThrough();
        stockBounds();
        ninetyNineAtMost();
        lateOfStock();
        moreLateThanStock();
        lateOfWhom();
        noSuchStock();
        byWhom();
        itsHoleSoFar();
        noSuchBy();
        beltNone();
        noSuchOnBelt();
        asideNone();
        noSuchAside();
        noSuchHole();
        noSuchWhole();
        sixteenWhole();
        lateAlone();
        stuckBits();
        CHECK.end();
    }

    private static String now(WaveWall x) {
        return Check.seen(x) + " acts " + x.count(6);
    }

    /** A call that answers so and leaves all as it was ahead of it. */
    private static void refused(WaveWall x, String call, long got, long due, String was) {
        CHECK.due(call, got, due);
        CHECK.same(call + " changes nothing", now(x), was);
    }

    /** Promise 12: "THE NEXT WAVE is RELEASED: how many ORDERS": 1 to 8, and the rest. */
    private static void howManyReleased() {
        for (int most = 1; most <= 8; most++) {
            WaveWall x = Check.told("wave " + most + " 60;item a 1 9;" + Check.orders(16, 1, 0, " a 1"));
            int wait = 16;
            for (; wait > 0; wait -= Math.min(wait, most)) {
                CHECK.due("release()", x.release(), Math.min(wait, most));
                CHECK.due("count(4)", x.count(4), wait - Math.min(wait, most));
            }
            CHECK.due("release() of none", x.release(), -1);
        }
    }

    /** Promise 12: "NONE: none WAITS." */
    private static void noneWaits() {
        WaveWall x = Check.told("item a 1 9;");
        String was = now(x);
        refused(x, "release() without orders", x.release(), -1, was);
        x = Check.told("item a 1 1;order o 1 a 2;");
        CHECK.due("release()", x.release(), 1);
        was = now(x);
        refused(x, "release() of one that is released", x.release(), -1, was);
        x.step(1);
        was = now(x);
        refused(x, "release() of one with a hole", x.release(), -1, was);
        x.by(0);
        was = now(x);
        refused(x, "release() of one that is by", x.release(), -1, was);
        x.stock(0, 1);
        x.step(1);
        was = now(x);
        refused(x, "release() of one that is whole", x.release(), -1, was);
        CHECK.how(x, 4);
    }

    /** Terms 2: "A WAVE is RELEASED: its ORDERS are", without any PICK too. */
    private static void releasedWithoutStock() {
        WaveWall x = Check.told("item a 1 0;order o 1 a 9;");
        CHECK.due("release()", x.release(), 1);
        CHECK.how(x, 1);
        CHECK.belt(x);
        CHECK.due("LATE", x.count(5), 9);
        CHECK.due("an act", x.count(6), 1);
        CHECK.due("item(0, 1)", x.item(0, 1), 0);
    }

    /** Terms 2: "the EARLIER one first as many as it needs", "What ORDERS need besides is LATE." */
    private static void lateBesides() {
        for (int stock = 0; stock <= 20; stock++) {
            // q is earlier
            WaveWall x = Check.told("item a 1 " + stock + ";order p 2 a 9;order q 1 a 9;");
            x.release();
            int first = Math.min(stock, 9);
            int second = Math.min(stock - first, 9);
            CHECK.due("belt", x.belt(-1, 0), first + second);
            for (int i = 0; i < first + second; i++) {
                CHECK.due("belt(" + i + ", 0)", x.belt(i, 0), i < first ? 1 : 0);
            }
            CHECK.due("LATE of q", x.units(1, 0, 2), 9 - first);
            CHECK.due("LATE of p", x.units(0, 0, 2), 9 - second);
            CHECK.due("STOCK", x.item(0, 1), stock - first - second);
            CHECK.due("LATE", x.count(5), 18 - first - second);
        }
    }

    /** Terms 2: "they come behind all on the BELT, PICK by PICK". */
    private static void behindAllOnBelt() {
        WaveWall x = Check.told("wave 1 60;item a 9 3;item b 2 9;order p 1 a 1 b 1;order q 0 a 2;order r 2 b 1 a 1;");
        x.release();
        CHECK.belt(x, new int[][] {{1, 0}, {1, 0}});
        x.release();
        CHECK.belt(x, new int[][] {{1, 0}, {1, 0}, {0, 1}, {0, 0}});
        x.step(1);
        x.release();
        CHECK.belt(x, new int[][] {{1, 0}, {0, 1}, {0, 0}, {2, 1}});
        x.stock(0, 1);
        CHECK.belt(x, new int[][] {{1, 0}, {0, 1}, {0, 0}, {2, 1}, {2, 0}});
    }

    /** Promise 13: "UNITS come from the BELT, n (1 to 200) at most: how many; NONE: others". */
    private static void stepBounds() {
        WaveWall x = Check.told(LARGEST);
        for (int i = 0; i < 4; i++) {
            CHECK.due("release()", x.release(), 1);
        }
        CHECK.due("belt", x.belt(-1, 0), 216);
        String was = now(x);
        for (int n : new int[] {MIN_VALUE, -200, -1, 0, 201, 202, 216, MAX_VALUE}) {
            refused(x, "step(" + n + ")", x.step(n), -1, was);
        }
        CHECK.due("step(1)", x.step(1), 1);
        CHECK.due("belt", x.belt(-1, 0), 215);
        CHECK.due("step(199)", x.step(199), 199);
        CHECK.due("belt", x.belt(-1, 0), 16);
        x.undo();
        CHECK.due("step(200)", x.step(200), 200);
        CHECK.due("belt", x.belt(-1, 0), 15);
        CHECK.due("step(200) of 15", x.step(200), 15);
        x.undo();
        CHECK.due("step(15) of 15", x.step(15), 15);
        x.undo();
        CHECK.due("step(16) of 15", x.step(16), 15);
        x.undo();
        CHECK.due("step(14) of 15", x.step(14), 14);
        CHECK.due("step(14) of 1", x.step(14), 1);
        CHECK.wholes(x, 0, 1, 2, 3);
    }

    /** The same of the largest BELT there can be: 200 at most each time. */
    private static void stepsOfMany() {
        WaveWall x = Check.told(LARGEST);
        for (int i = 0; i < 16; i++) {
            x.release();
        }
        for (int item = 0; item < 6; item++) {
            x.stock(item, 99);
        }
        int[] came = {200, 200, 200, 200, 64, -1};
        for (int n : came) {
            CHECK.due("step(200)", x.step(200), n);
        }
        CHECK.due("whole(-1)", x.whole(-1), 16);
    }

    /** Promise 13: "NONE: .. the BELT is empty." */
    private static void emptyBelt() {
        WaveWall x = Check.told("holes 1;" + TWO + "order p 1 a 1 b 1;order q 2 a 1;");
        String was = now(x);
        refused(x, "step(1) while all wait", x.step(1), -1, was);
        x.release();
        x.step(2);
        CHECK.due("aside", x.aside(-1, 0), 1);
        x.step(1);
        was = now(x);
        for (int n : new int[] {1, 200, 0, 201, -1}) {
            refused(x, "step(" + n + ")", x.step(n), -1, was);
        }
        x = Check.told("item a 1 0;order p 1 a 1;");
        x.release();
        was = now(x);
        refused(x, "step(1) while all is late", x.step(1), -1, was);
    }

    /** Terms 2: "with none free it goes ASIDE, behind all that are": with 1 to 8 HOLES. */
    private static void noneFree() {
        for (int holes = 1; holes <= 8; holes++) {
            WaveWall x = Check.told("holes " + holes + ";wave 8 60;" + TWO + Check.orders(8, 1, 0, " a 1 b 1"));
            x.release();
            x.step(8);
            int[][] aside = new int[8 - holes][];
            for (int i = 0; i < aside.length; i++) {
                aside[i] = new int[] {holes + i, 0};
            }
            CHECK.aside(x, aside);
            CHECK.due("free", x.count(3), 0);
            for (int hole = 0; hole < holes; hole++) {
                CHECK.due("hole(" + hole + ")", x.hole(hole), hole);
            }
            CHECK.due("no hole", Check.order(x, 7, 5), holes == 8 ? 7 : -1);
            CHECK.due("how", Check.order(x, 7, 4), holes == 8 ? 2 : 1);
            x.step(1);
            CHECK.wholes(x, 0);
            CHECK.due("hole(0)", x.hole(0), holes == 8 ? -1 : holes);
            CHECK.due("aside", x.aside(-1, 0), Math.max(0, 7 - holes));
        }
    }

    /** Terms 2: "the HOLE with the least number that is free is its ORDER's from then on". */
    private static void leastFreeHole() {
        WaveWall x = Check.told("holes 8;wave 8 60;item a 1 99;item b 2 99;" + Check.orders(10, 1, 0, " a 1 b 1"));
        x.release();
        x.step(8);
        CHECK.due("by(7)", x.by(7), 7);
        CHECK.due("by(3)", x.by(3), 3);
        CHECK.due("by(5)", x.by(5), 5);
        x.release();
        // the b of the first eight make 0 to 2, 4 and 6 whole; 3, 5 and 7 are by
        CHECK.due("step(2)", x.step(2), 2);
        CHECK.holes(x, -1, -1, 2, -1, 4, -1, 6, -1);
        CHECK.due("step(6)", x.step(6), 6);
        CHECK.holes(x, -1, -1, -1, -1, -1, -1, -1, -1);
        x.step(2);
        CHECK.holes(x, 8, 9, -1, -1, -1, -1, -1, -1);
        x = Check.told("holes 4;wave 8 60;item a 1 9;item b 2 0;" + Check.orders(6, 1, 0, " a 1 b 1"));
        x.release();
        x.step(4);
        CHECK.due("by(3)", x.by(3), 3);
        CHECK.due("by(1)", x.by(1), 1);
        CHECK.holes(x, 0, -1, 2, -1);
        x.step(1);
        CHECK.holes(x, 0, 4, 2, -1);
        x.step(1);
        CHECK.holes(x, 0, 4, 2, 5);
    }

    /** Terms 2: an ORDER of one UNIT has a HOLE for it, or waits ASIDE for one. */
    private static void holeForOneUnit() {
        WaveWall x = Check.told("holes 1;" + TWO + "order p 2 a 1;order q 1 a 1 b 1;order r 3 b 1;");
        x.release();
        x.step(2);
        CHECK.aside(x, new int[][] {{0, 0}});
        CHECK.wholes(x);
        x.step(1);
        CHECK.wholes(x, 1, 0);
        CHECK.holes(x, -1);
        x.step(1);
        CHECK.wholes(x, 1, 0, 2);
        CHECK.holes(x, -1);
    }

    /** Terms 2: "An ORDER is WHOLE when it has all UNITS of its LINES: its HOLE is free." */
    private static void allUnits() {
        WaveWall x = Check.told("item a 1 9;item b 2 9;order o 1 a 9 b 1;");
        x.release();
        for (int has = 1; has <= 9; has++) {
            x.step(1);
            CHECK.due("UNITS that it has", Check.order(x, 0, 2), has);
            CHECK.how(x, 2);
            CHECK.holes(x, 0, -1, -1, -1);
            CHECK.wholes(x);
        }
        x.step(1);
        CHECK.how(x, 4);
        CHECK.holes(x, -1, -1, -1, -1);
        CHECK.wholes(x, 0);
        CHECK.due("UNITS that it has", Check.order(x, 0, 2), 10);
    }

    /** Terms 2: "if it was put BY, to what it has", though a HOLE is free, and though none is. */
    private static void putByToWhatItHas() {
        for (int holes = 1; holes <= 2; holes++) {
            WaveWall x = Check.told("holes " + holes + ";item a 1 9;item b 2 0;order p 1 a 3;order q 2 a 1 b 1;");
            x.release();
            x.step(1);
            x.by(0);
            CHECK.due("UNITS stay its own", x.units(0, 0, 1), 1);
            x.step(1);
            CHECK.how(x, 3, 1);
            CHECK.due("free", x.count(3), holes);
            x.step(1);
            CHECK.how(x, 4, 1);
            CHECK.due("free", x.count(3), holes);
            CHECK.wholes(x, 0);
        }
        WaveWall x = Check.told("holes 1;item a 1 9;item b 2 0;item c 3 9;order p 1 a 1 c 1;order q 2 a 1 b 1;");
        x.release();
        x.step(2);
        x.by(0);
        CHECK.holes(x, 1);
        x.step(1);
        CHECK.wholes(x, 0);
        CHECK.holes(x, 1);
        CHECK.aside(x);
    }

    /** Terms 2: "as long as one did so, from the first one on again": to the last, and to none that can. */
    private static void goneThrough() {
        WaveWall x = Check.told("holes 1;wave 8 60;" + TWO + "item c 3 9;" + Check.orders(7, 2, 0, " a 1 b 1")
                + "order p 1 a 1 c 1;");
        x.release();
        x.step(15);
        CHECK.due("aside", x.aside(-1, 0), 14);
        CHECK.wholes(x);
        CHECK.due("step(1)", x.step(1), 1);
        CHECK.wholes(x, 7, 0, 1, 2, 3, 4, 5, 6);
        CHECK.aside(x);
        x = Check.told("holes 1;wave 8 60;item a 1 9;item b 2 2;item c 3 9;" + Check.orders(4, 2, 0, " a 1 b 1")
                + "order p 1 a 1 c 1;");
        x.release();
        x.step(7);
        CHECK.due("aside", x.aside(-1, 0), 6);
        x.step(1);
        // the third has the hole and lacks a late one, so the fourth stays
        CHECK.wholes(x, 4, 0, 1);
        CHECK.holes(x, 2);
        CHECK.aside(x, new int[][] {{3, 0}});
        CHECK.due("stuck()", x.stuck(), 0b00100);
    }

    /** Promise 14: "STOCK of an ITEM comes (1 to 99)", "NONE: others." */
    private static void stockBounds() {
        for (int n = -2; n <= 102; n++) {
            WaveWall x = Check.told("item a 1 0;item b 1 5;");
            boolean can = n >= 1 && n <= 99;
            CHECK.due("stock(0, " + n + ")", x.stock(0, n), can ? 0 : -1);
            CHECK.due("STOCK", x.item(0, 1), can ? n : 0);
            CHECK.due("STOCK of the other", x.item(1, 1), 5);
            CHECK.due("acts", x.count(6), can ? 1 : 0);
        }
    }

    /** Terms 2: "STOCK comes: it is so much more (99 at most, what is beyond is nobody's)". */
    private static void ninetyNineAtMost() {
        for (int stock = 0; stock <= 99; stock += 3) {
            for (int n = 1; n <= 99; n++) {
                WaveWall x = Check.told("item a 1 " + stock + ";order o 1 a 9;");
                CHECK.due("stock(0, " + n + ")", x.stock(0, n), 0);
                CHECK.due("STOCK", x.item(0, 1), Math.min(99, stock + n));
                CHECK.due("an act", x.count(6), 1);
                x.release();
                CHECK.due("STOCK behind it", x.item(0, 1), Math.max(0, Math.min(99, stock + n) - 9));
            }
        }
    }

    /** Terms 2: "then of LATE UNITS of that ITEM, the EARLIER ORDER first, as many as there are in STOCK". */
    private static void lateOfStock() {
        for (int n = 1; n <= 99; n++) {
            WaveWall x = Check.told("item a 1 0;item b 1 0;order p 2 a 9 b 1;order q 1 a 9;");
            x.release();
            int come = Math.min(n, 18);
            CHECK.due("stock(0, " + n + ")", x.stock(0, n), come);
            CHECK.due("belt", x.belt(-1, 0), come);
            CHECK.due("the last one's order", x.belt(come - 1, 0), come <= 9 ? 1 : 0);
            CHECK.due("STOCK", x.item(0, 1), n - come);
            CHECK.due("LATE of it", x.item(0, 2), 18 - come);
            CHECK.due("LATE of q", x.units(1, 0, 2), Math.max(0, 9 - n));
            CHECK.due("LATE of the other", x.item(1, 2), 1);
        }
    }

    /** The same, where more are LATE than can ever be in STOCK. */
    private static void moreLateThanStock() {
        WaveWall x = Check.told("wave 8 60;item a 1 0;" + Check.orders(12, 1, 0, " a 9"));
        x.release();
        x.release();
        CHECK.due("LATE", x.count(5), 108);
        CHECK.due("stock(0, 99)", x.stock(0, 99), 99);
        CHECK.due("STOCK", x.item(0, 1), 0);
        CHECK.due("LATE", x.count(5), 9);
        CHECK.due("stock(0, 8)", x.stock(0, 8), 8);
        CHECK.due("stock(0, 99)", x.stock(0, 99), 1);
        CHECK.due("STOCK", x.item(0, 1), 98);
        CHECK.due("stock(0, 99)", x.stock(0, 99), 0);
        CHECK.due("STOCK", x.item(0, 1), 99);
        CHECK.due("belt", x.belt(-1, 0), 108);
        CHECK.due("LATE", x.count(5), 0);
    }

    /** The same: of ORDERS that are released, have a HOLE or are BY alike, and of none that WAITS. */
    private static void lateOfWhom() {
        WaveWall x = Check.told("holes 2;wave 3 60;item a 1 3;item b 2 0;" + Check.orders(4, 1, 0, " a 1 b 1"));
        x.release();
        x.step(1);
        x.by(0);
        x.step(1);
        CHECK.how(x, 3, 2, 1, 0);
        CHECK.due("stock(1, 99)", x.stock(1, 99), 3);
        CHECK.belt(x, new int[][] {{2, 0}, {0, 1}, {1, 1}, {2, 1}});
        CHECK.due("STOCK", x.item(1, 1), 96);
        x.step(200);
        CHECK.wholes(x, 0, 1, 2);
    }

    /** Promise 14: "NONE: others", where there is no such ITEM. */
    private static void noSuchStock() {
        WaveWall x = Check.told("item a 1 0;item b 1 0;order o 1 a 1 b 1;");
        x.release();
        String was = now(x);
        for (int item : new int[] {-1, 2, 3, 9, 10, 16}) {
            refused(x, "stock(" + item + ", 1)", x.stock(item, 1), -1, was);
        }
        for (int wild : WILD) {
            refused(x, "stock(" + wild + ", 1)", x.stock(wild, 1), -1, was);
            refused(x, "stock(0, " + wild + ")", x.stock(0, wild), -1, was);
        }
        refused(x, "stock(2, 100)", x.stock(2, 100), -1, was);
        CHECK.due("stock(1, 1)", x.stock(1, 1), 1);
    }

    /** Promise 15: "NONE: none such, it has no HOLE." */
    private static void byWhom() {
        WaveWall x = Check.told("holes 1;wave 2 60;" + TWO + "order p 1 a 1 b 1;order q 2 a 2;order r 3 a 1;");
        x.release();
        x.step(2);
        // p has the hole, q is aside and on the belt, r waits
        String was = now(x);
        refused(x, "by(1) of one aside", x.by(1), -1, was);
        refused(x, "by(2) of one that waits", x.by(2), -1, was);
        CHECK.due("by(0)", x.by(0), 0);
        CHECK.how(x, 3, 2, 0);
        was = now(x);
        refused(x, "by(0) of one that is by", x.by(0), -1, was);
        x.step(200);
        CHECK.how(x, 4, 4, 0);
        was = now(x);
        refused(x, "by(0) of one that was by and is whole", x.by(0), -1, was);
        refused(x, "by(1) of one that is whole", x.by(1), -1, was);
        x.release();
        was = now(x);
        refused(x, "by(2) of one on the belt", x.by(2), -1, was);
    }

    /** Promise 15: "its HOLE so far": from the first to the last there is; "the HOLE is free". */
    private static void itsHoleSoFar() {
        WaveWall x = Check.told("holes 8;wave 8 60;" + TWO + Check.orders(8, 1, 0, " a 1 b 1"));
        x.release();
        x.step(8);
        for (int order = 7; order >= 0; order--) {
            CHECK.due("by(" + order + ")", x.by(order), order);
            CHECK.due("hole(" + order + ")", x.hole(order), -1);
            CHECK.due("order(" + order + ", 5)", Check.order(x, order, 5), -1);
            CHECK.due("UNITS stay its own", x.units(order, 0, 1), 1);
            CHECK.due("free", x.count(3), 8 - order);
        }
    }

    /** Promise 15: "none such". */
    private static void noSuchBy() {
        WaveWall x = Check.told("item a 1 1;order o 1 a 2;");
        x.release();
        x.step(1);
        String was = now(x);
        for (int order : new int[] {-1, 1, 15, 16, 17}) {
            refused(x, "by(" + order + ")", x.by(order), -1, was);
        }
        for (int wild : WILD) {
            refused(x, "by(" + wild + ")", x.by(wild), -1, was);
        }
        CHECK.due("by(0)", x.by(0), 0);
    }

    /** Promise 16: "how many (i NONE, any what)". */
    private static void beltNone() {
        WaveWall x = Check.told(TWO + "order o 1 a 9 b 9;");
        for (int units : new int[] {0, 18, 17, 1, 0}) {
            for (int what : new int[] {MIN_VALUE, -2, -1, 0, 1, 2, MAX_VALUE}) {
                CHECK.due("belt(-1, " + what + ")", x.belt(-1, what), units);
            }
            if (units != 1) {
                x.release();
            }
            x.step(units == 18 ? 1 : units == 17 ? 16 : units == 1 ? 1 : 0);
        }
    }

    /** Promise 16: "-2: others, none such." */
    private static void noSuchOnBelt() {
        WaveWall x = Check.told(TWO + "order o 1 a 2 b 1;");
        CHECK.due("belt(0, 0) of none", x.belt(0, 0), -2);
        x.release();
        // ahead of any step, and with one gone from the front
        for (int units = 3; units >= 1; units--) {
            for (int i = 0; i < units; i++) {
                CHECK.due("belt(" + i + ", 0)", x.belt(i, 0), 0);
                CHECK.due("belt(" + i + ", 1)", x.belt(i, 1), i == units - 1 ? 1 : 0);
                CHECK.due("belt(" + i + ", 2)", x.belt(i, 2), -2);
                CHECK.due("belt(" + i + ", -1)", x.belt(i, -1), -2);
            }
            for (int what = 0; what < 2; what++) {
                CHECK.due("belt(" + units + ", " + what + ")", x.belt(units, what), -2);
                CHECK.due("belt(-2, " + what + ")", x.belt(-2, what), -2);
                for (int wild : WILD) {
                    CHECK.due("belt(" + wild + ", " + what + ")", x.belt(wild, what), -2);
                    CHECK.due("belt(0, " + wild + ")", x.belt(0, wild), -2);
                }
            }
            x.step(1);
        }
        CHECK.due("belt(0, 0) of none", x.belt(0, 0), -2);
    }

    /** Promise 17: "Likewise of those ASIDE": how many, with any what. */
    private static void asideNone() {
        WaveWall x = Check.told("holes 1;" + TWO + "order p 1 a 1 b 1;order q 2 a 8;");
        x.release();
        x.step(1);
        for (int units = 0; units <= 8; units++) {
            for (int what : new int[] {MIN_VALUE, -2, -1, 0, 1, 2, MAX_VALUE}) {
                CHECK.due("aside(-1, " + what + ")", x.aside(-1, what), units);
            }
            x.step(1);
        }
        CHECK.due("aside(-1, 0) when the hole was free", x.aside(-1, 0), 0);
    }

    /** Promise 17: "Likewise of those ASIDE": -2 for others and none such. */
    private static void noSuchAside() {
        WaveWall x = Check.told("holes 1;" + TWO + "item c 3 9;order p 1 a 1 c 1;order q 2 a 1 b 1;");
        CHECK.due("aside(0, 0) of none", x.aside(0, 0), -2);
        x.release();
        x.step(3);
        CHECK.aside(x, new int[][] {{1, 0}, {1, 1}});
        for (int i = 0; i < 2; i++) {
            CHECK.due("aside(" + i + ", 2)", x.aside(i, 2), -2);
            CHECK.due("aside(" + i + ", -1)", x.aside(i, -1), -2);
            CHECK.due("aside(2, " + i + ")", x.aside(2, i), -2);
            CHECK.due("aside(-2, " + i + ")", x.aside(-2, i), -2);
            for (int wild : WILD) {
                CHECK.due("aside(" + wild + ", " + i + ")", x.aside(wild, i), -2);
                CHECK.due("aside(" + i + ", " + wild + ")", x.aside(i, wild), -2);
            }
        }
        x.step(1);
        CHECK.due("aside(0, 0) of none", x.aside(0, 0), -2);
    }

    /** Promise 18: "NONE: it is free; -2: none such." */
    private static void noSuchHole() {
        for (int holes = 1; holes <= 8; holes++) {
            WaveWall x = Check.told("holes " + holes + ";wave 8 60;" + TWO + Check.orders(8, 1, 0, " a 1 b 1"));
            x.release();
            for (int taken = 0; taken <= holes; taken++) {
                for (int hole = 0; hole < holes; hole++) {
                    CHECK.due("hole(" + hole + ")", x.hole(hole), hole < taken ? hole : -1);
                }
                CHECK.due("hole(" + holes + ")", x.hole(holes), -2);
                CHECK.due("hole(-1)", x.hole(-1), -2);
                x.step(1);
            }
            for (int wild : WILD) {
                CHECK.due("hole(" + wild + ")", x.hole(wild), -2);
            }
            CHECK.due("hole(8)", x.hole(8), -2);
        }
    }

    /** Promise 19: "how many (k NONE); -2: none such, others." */
    private static void noSuchWhole() {
        WaveWall x = Check.told("item a 1 9;order p 2 a 1;order q 1 a 1;order r 3 a 1;");
        CHECK.wholes(x);
        x.release();
        int[][] due = {{}, {1}, {1, 0}, {1, 0, 2}};
        for (int[] wholes : due) {
            CHECK.wholes(x, wholes);
            CHECK.due("whole(-2)", x.whole(-2), -2);
            CHECK.due("whole(3)", x.whole(3), -2);
            for (int wild : WILD) {
                CHECK.due("whole(" + wild + ")", x.whole(wild), -2);
            }
            x.step(1);
        }
        x.undo();
        CHECK.wholes(x, 1, 0);
    }

    /** Promise 19: "The k-th ORDER that came to be WHOLE (from 0)": to the sixteenth. */
    private static void sixteenWhole() {
        WaveWall x = Check.told("wave 8 60;holes 1;item a 1 99;" + Check.orders(16, 50, -1, " a 1"));
        x.release();
        x.release();
        for (int k = 0; k < 16; k++) {
            CHECK.due("whole(-1)", x.whole(-1), k);
            CHECK.due("whole(" + k + ")", x.whole(k), -2);
            x.step(1);
            CHECK.due("whole(" + k + ")", x.whole(k), 15 - k);
        }
        CHECK.due("whole(-1)", x.whole(-1), 16);
        CHECK.due("whole(16)", x.whole(16), -2);
    }

    /** Terms 2: "STUCK: ORDERS that have a HOLE and need, besides what they have, LATE UNITS alone." */
    private static void lateAlone() {
        WaveWall x = Check.told("item a 1 2;item b 2 1;order o 1 a 3 b 1;");
        CHECK.due("stuck() of one that waits", x.stuck(), 0);
        x.release();
        CHECK.due("stuck() of one without a hole", x.stuck(), 0);
        x.step(1);
        CHECK.due("stuck(): two on the belt", x.stuck(), 0);
        x.step(1);
        CHECK.due("stuck(): one on the belt", x.stuck(), 0);
        x.step(1);
        CHECK.due("stuck(): none on the belt", x.stuck(), 1);
        x.stock(0, 1);
        CHECK.due("stuck(): the late one is on the belt", x.stuck(), 0);
        x.undo();
        CHECK.due("stuck() again", x.stuck(), 1);
        x.by(0);
        CHECK.due("stuck() of one that is by", x.stuck(), 0);
        x.undo();
        x.stock(0, 1);
        x.step(1);
        CHECK.due("stuck() of a whole one", x.stuck(), 0);
        x = Check.told("holes 1;item a 1 2;item b 2 0;order p 1 a 1 b 1;order q 2 a 1 b 1;");
        x.release();
        x.step(2);
        CHECK.due("stuck() of p, not of q aside", x.stuck(), 0b01);
    }

    /** Promise 20: "STUCK, as bits of ORDERS": of the first one and of the sixteenth. */
    private static void stuckBits() {
        WaveWall x = Check.told("holes 8;wave 8 60;item a 1 99;item b 2 0;" + Check.orders(16, 50, -1, " a 1 b 1"));
        x.release();
        for (int came = 1; came <= 8; came++) {
            x.step(1);
            CHECK.due("stuck()", x.stuck(), 0xffff & 0xffff << 16 - came);
        }
        for (int order = 15; order >= 8; order--) {
            x.by(order);
        }
        CHECK.due("stuck()", x.stuck(), 0);
        x.release();
        x.step(200);
        CHECK.due("stuck()", x.stuck(), 0x00ff);
    }
}
