import static java.lang.Integer.MAX_VALUE;
import static java.lang.Integer.MIN_VALUE;

/** Promises 21 to 28 and Terms 3: a test for each sentence that names a bound; the sentence stands above it. */
public final class ThoughtBoundsTest {
    private static final Check CHECK = new Check("ThoughtBoundsTest");
    private static final int[] WILD = {MIN_VALUE, MIN_VALUE + 1, -100, -2, -1, 100, MAX_VALUE - 1, MAX_VALUE};
    private static final String TWO = "item a 1 9;item b 2 9;";

    public static void main(String[] args) {
        needsWithoutAny();
        asManyHolesAsItWants();
        freeAtOnce();
        lateToTheEnd();
        sixPicksAtMost();
        moreThanSixPicks();
        noPicks();
        firstByNumbers();
        sizesBounds();
        sizesOfNone();
        unitsAsTold();
        endlessStock();
        leastOfLikeSizes();
        bestOfNone();
        wouldBeOfNothing();
        wouldBeOfAll();
        wouldBeChangesNothing();
        noneCanBeUndone();
        lastTwelve();
        roundAndRound();
        everyActIsUndone();
        noSuchKeep();
        nothingInIt();
        keepsApart();
        allButTapeAndText();
        nothingUndoneBehindKeep();
        noSuchCount();
        leastAndMost();
        calls512();
        CHECK.end();
    }

    /** Promise 21: "NEEDS of THE NEXT WAVE in the order of its PICKS; 0 without any." */
    private static void needsWithoutAny() {
        needs("", 0);
        needs("item a 1 9;", 0);
        needs("item a 1 0;order o 1 a 1;", 0);
        needs("item a 1 1;order o 1 a 1;", 1);
        WaveWall x = Check.told("item a 1 1;order o 1 a 1;");
        x.release();
        CHECK.due("needs() when none waits", x.needs(), 0);
    }

    /** Terms 3: "with as many HOLES as it wants", "the most at once": 1 to 8, whatever the wall has. */
    private static void asManyHolesAsItWants() {
        for (int orders = 1; orders <= 8; orders++) {
            String lines = "wave 8 60;" + TWO + Check.orders(orders, 1, 0, " a 1 b 1");
            needs("holes 1;" + lines, orders);
            needs("holes 8;" + lines, orders);
            WaveWall x = Check.told(lines);
            CHECK.due("best(0)", x.best(0), orders);
        }
        // whoever has the wall now means nothing: it goes through by itself
        WaveWall x = Check.told("holes 1;wave 1 60;item a 1 1;item b 2 9;order p 1 a 2;order q 2 b 1;");
        x.release();
        x.step(1);
        CHECK.due("free", x.count(3), 0);
        CHECK.due("needs()", x.needs(), 1);
    }

    /** Terms 3: "Behind a UNIT that makes one WHOLE its HOLE is free at once; it counts while that UNIT comes." */
    private static void freeAtOnce() {
        needs("wave 8 60;item a 1 99;" + Check.orders(8, 1, 0, " a 1"), 1);
        needs("wave 8 60;item a 1 99;" + Check.orders(8, 1, 0, " a 7"), 1);
        // p's last comes ahead of q's first, or behind it
        needs(TWO + "order p 1 a 1 b 1;order q 2 b 1;", 1);
        needs(TWO + "order p 2 a 1 b 1;order q 1 b 1;", 2);
        // p holds while q, of one unit, comes and is whole: two at once
        needs(TWO + "order p 1 a 1 b 1;order q 2 a 1;", 2);
        needs(TWO + "order p 2 a 1 b 1;order q 1 a 1;", 1);
    }

    /** Terms 3: "(LATE ones come no more: to the end)"; and one without any UNIT has no HOLE. */
    private static void lateToTheEnd() {
        for (int stock = 0; stock <= 9; stock++) {
            // each has its a and is late with b
            needs("wave 8 60;item a 1 " + stock + ";item b 2 0;" + Check.orders(8, 1, 0, " a 1 b 1"),
                    Math.min(stock, 8));
            // of two a each: whole but for the one that has half
            needs("wave 8 60;item a 1 " + stock + ";" + Check.orders(4, 1, 0, " a 2"), Math.min(stock, 1));
        }
        // p lacks one a and holds on while q comes
        needs("item a 1 1;item b 2 9;order p 1 a 2;order q 2 b 1;", 2);
        needs("item a 1 2;item b 2 9;order p 1 a 2;order q 2 b 1;", 1);
    }

    /** Terms 3: "(of 6 at most)". Promise 22: "1 and on: its ITEM what less 1", "NONE: others". */
    private static void sixPicksAtMost() {
        for (int picks = 1; picks <= 6; picks++) {
            WaveWall x = Check.told(picks(picks));
            CHECK.due("pick(-1, 0)", x.pick(-1, 0), picks);
            CHECK.due("best(0)", x.best(0), 1);
            for (int what = 1; what <= picks; what++) {
                CHECK.due("best(" + what + ")", x.best(what), what - 1);
            }
            CHECK.due("best(" + (picks + 1) + ")", x.best(picks + 1), -1);
            CHECK.due("best(7)", x.best(7), -1);
            for (int wild : WILD) {
                CHECK.due("best(" + wild + ")", x.best(wild), -1);
            }
        }
    }

    /** Promise 22: "-2: more than 6 PICKS, whatever what is". */
    private static void moreThanSixPicks() {
        for (int picks = 7; picks <= 10; picks++) {
            WaveWall x = Check.told(picks(picks));
            CHECK.due("pick(-1, 0)", x.pick(-1, 0), picks);
            for (int what = 0; what <= 11; what++) {
                CHECK.due("best(" + what + ")", x.best(what), -2);
            }
            for (int wild : WILD) {
                CHECK.due("best(" + wild + ")", x.best(wild), -2);
            }
            CHECK.due("needs()", x.needs(), 1);
        }
        // of seven items six have stock
        WaveWall x = Check.told(picks(7).replace("item a 1 1;", "item a 1 0;"));
        CHECK.due("best(0)", x.best(0), 1);
        // p lacks its a and would hold on, so q's comes first
        CHECK.due("best(1)", x.best(1), 6);
        x.stock(0, 1);
        CHECK.due("best(0) of seven", x.best(0), -2);
        x.undo();
        CHECK.due("best(6)", x.best(6), 5);
        CHECK.due("best(7)", x.best(7), -1);
    }

    /** Items a and on, each of one of two orders: six the first's, the rest the second's. */
    private static String picks(int count) {
        StringBuilder items = new StringBuilder("wave 8 60;");
        StringBuilder first = new StringBuilder("order p 1");
        StringBuilder second = new StringBuilder("order q 2");
        for (int i = 0; i < count; i++) {
            char name = (char) ('a' + i);
            items.append("item ").append(name).append(" 1 1;");
            (i < 6 ? first : second).append(' ').append(name).append(" 1");
        }
        return items + first.toString() + ";" + (count > 6 ? second + ";" : "");
    }

    /** Promise 22: "NONE: .. no PICKS": whatever what is. */
    private static void noPicks() {
        for (String text : new String[] {"", "item a 1 1;", "item a 1 0;order o 1 a 1;"}) {
            WaveWall x = Check.told(text);
            for (int what = 0; what <= 7; what++) {
                CHECK.due("best(" + what + ") of " + text, x.best(what), -1);
            }
            for (int wild : WILD) {
                CHECK.due("best(" + wild + ") of " + text, x.best(wild), -1);
            }
        }
    }

    /** Terms 3: "by which NEEDS are least, of like ones the first by numbers of ITEMS, one behind the other". */
    private static void firstByNumbers() {
        // all orders of them are alike: by numbers, not by places
        best("item a 9 1;item b 8 1;item c 7 1;item d 6 1;item e 5 1;item f 4 1;order o 1 a 1 b 1 c 1 d 1 e 1 f 1;",
                1, 0, 1, 2, 3, 4, 5);
        // a and f are one's, b and e another's, c and d a third's
        best("item a 1 9;item b 2 9;item c 3 9;item d 4 9;item e 5 9;item f 6 9;"
                + "order p 1 a 1 f 1;order q 1 b 1 e 1;order r 1 c 1 d 1;", 1, 0, 5, 1, 4, 2, 3);
        // a's order never is whole, so a comes last, and b ahead of c
        best("item a 1 1;item b 2 9;item c 3 9;order p 1 a 2;order q 1 b 1;order r 1 c 1;", 1, 1, 2, 0);
        best("item a 1 1;order p 1 a 1;", 1, 0);
    }

    /** Promise 23: "SIZES with so many ORDERS a WAVE (1 to 8), what 0: WAVES, 1: PICKS; NONE: others." */
    private static void sizesBounds() {
        WaveWall x = Check.told("item a 1 9;" + Check.orders(16, 1, 0, " a 1"));
        int[] waves = {16, 8, 6, 4, 4, 3, 3, 2};
        for (int size = 1; size <= 8; size++) {
            CHECK.due("sizes(" + size + ", 0)", x.sizes(size, 0), waves[size - 1]);
            CHECK.due("sizes(" + size + ", 1)", x.sizes(size, 1), waves[size - 1]);
            CHECK.due("sizes(" + size + ", 2)", x.sizes(size, 2), -1);
            for (int wild : WILD) {
                CHECK.due("sizes(" + size + ", " + wild + ")", x.sizes(size, wild), -1);
            }
        }
        for (int what = 0; what < 2; what++) {
            CHECK.due("sizes(0, " + what + ")", x.sizes(0, what), -1);
            CHECK.due("sizes(9, " + what + ")", x.sizes(9, what), -1);
            for (int wild : WILD) {
                CHECK.due("sizes(" + wild + ", " + what + ")", x.sizes(wild, what), -1);
            }
        }
        CHECK.due("sizes(0, 2)", x.sizes(0, 2), -1);
        CHECK.due("ORDERS as told", x.count(8), 4);
        // the first one told comes last
        x = Check.told("item a 1 9;" + Check.orders(16, 50, -1, " a 1"));
        for (int size = 1; size <= 8; size++) {
            CHECK.due("sizes(" + size + ", 0)", x.sizes(size, 0), waves[size - 1]);
            CHECK.due("sizes(" + size + ", 1)", x.sizes(size, 1), waves[size - 1]);
        }
    }

    /** Terms 3: "SIZES: all ORDERS that WAIT": with none there are no WAVES and no PICKS. */
    private static void sizesOfNone() {
        WaveWall x = Check.told("wave 1 60;item a 1 9;order p 1 a 1;order q 1 a 1;");
        for (int wait = 2; wait >= 0; wait--) {
            CHECK.due("sizes(1, 0)", x.sizes(1, 0), wait);
            CHECK.due("sizes(1, 1)", x.sizes(1, 1), wait);
            CHECK.due("sizes(8, 0)", x.sizes(8, 0), Math.min(wait, 1));
            CHECK.due("sizes(8, 1)", x.sizes(8, 1), Math.min(wait, 1));
            CHECK.due("sizes(0, 0)", x.sizes(0, 0), -1);
            x.release();
        }
    }

    /** Terms 3: "(UNITS as told)", and one with more goes by itself. */
    private static void unitsAsTold() {
        for (int units = 1; units <= 60; units++) {
            WaveWall x = Check.told("wave 1 " + units + ";item a 1 9;" + Check.orders(8, 1, 0, " a 6"));
            int together = Math.min(8, Math.max(1, units / 6));
            int waves = (8 + together - 1) / together;
            CHECK.due("sizes(8, 0) of " + units, x.sizes(8, 0), waves);
            CHECK.due("sizes(8, 1) of " + units, x.sizes(8, 1), waves);
            CHECK.due("sizes(1, 0) of " + units, x.sizes(1, 0), 8);
        }
    }

    /** Terms 3: "STOCK of all being endless". */
    private static void endlessStock() {
        for (int stock = 0; stock <= 3; stock++) {
            WaveWall x = Check.told("item a 1 " + stock + ";item b 1 0;" + Check.orders(4, 1, 0, " a 1 b 9"));
            CHECK.due("sizes(1, 1)", x.sizes(1, 1), 8);
            CHECK.due("sizes(3, 1)", x.sizes(3, 1), 4);
            CHECK.due("sizes(3, 0)", x.sizes(3, 0), 2);
            CHECK.due("bestSize()", x.bestSize(), 2);
        }
    }

    /** Promise 24: "The number of ORDERS a WAVE (1 to 8) with the fewest PICKS, of like ones the least." */
    private static void leastOfLikeSizes() {
        bestSize("item a 1 0;item b 1 0;item c 1 0;order p 1 a 1;order q 1 b 1;order r 1 c 1;", 1);
        bestSize("item a 1 0;order p 1 a 1;", 1);
        for (int orders = 1; orders <= 9; orders++) {
            // nine orders: five and four have two picks, as eight and one
            bestSize("item a 1 9;" + Check.orders(orders, 1, 0, " a 1"), orders < 9 ? orders : 5);
        }
        bestSize("item a 1 9;" + Check.orders(16, 1, 0, " a 1"), 8);
        // no more than two go together by their units
        bestSize("wave 8 2;item a 1 9;" + Check.orders(8, 1, 0, " a 1"), 2);
        bestSize("wave 8 1;item a 1 9;" + Check.orders(8, 1, 0, " a 1"), 1);
    }

    /** Promise 24, when none WAITS: of like ones, all without PICKS, the least. */
    private static void bestOfNone() {
        bestSize("", 1);
        bestSize("item a 1 1;", 1);
        WaveWall x = Check.told("wave 3 60;item a 1 9;" + Check.orders(5, 1, 0, " a 1"));
        CHECK.due("bestSize() of five", x.bestSize(), 5);
        x.release();
        CHECK.due("bestSize() of two", x.bestSize(), 2);
        x.release();
        CHECK.due("bestSize() of none", x.bestSize(), 1);
    }

    /** Promise 25: "How many ORDERS would be WHOLE, if all UNITS on the BELT came now": with none on it. */
    private static void wouldBeOfNothing() {
        WaveWall x = Check.told("holes 1;item a 1 2;item b 2 0;order p 1 a 1;order q 2 a 1 b 1;");
        CHECK.due("wouldBe() while all wait", x.wouldBe(), 0);
        x.release();
        CHECK.due("wouldBe()", x.wouldBe(), 1);
        x.step(2);
        CHECK.due("wouldBe(): p is", x.wouldBe(), 1);
        x.stock(1, 1);
        CHECK.due("wouldBe(): q too", x.wouldBe(), 2);
        x.step(1);
        CHECK.due("wouldBe(): all are", x.wouldBe(), 2);
    }

    /** The same: "all UNITS", more than a step takes, and those ASIDE that a free HOLE lets come. */
    private static void wouldBeOfAll() {
        WaveWall x = Check.told("holes 1;item a1 99;item b1 99;item c1 99;item d1 99;item e1 99;item f1 99;"
                + Check.orders(16, 1, 0, "a9b9c9d9e9f9"));
        for (int i = 0; i < 16; i++) {
            x.release();
        }
        CHECK.due("belt", x.belt(-1, 0), 594);
        CHECK.due("wouldBe() of 594", x.wouldBe(), 11);
        for (int item = 0; item < 6; item++) {
            x.stock(item, 45);
        }
        CHECK.due("wouldBe() of 864", x.wouldBe(), 16);
        x = Check.told("holes 1;" + TWO + "item c 3 9;order p 1 a 1 c 1;order q 2 a 1 b 1;");
        x.release();
        x.step(3);
        CHECK.due("aside", x.aside(-1, 0), 2);
        CHECK.due("wouldBe() by those aside", x.wouldBe(), 2);
        x = Check.told("holes 1;item a 1 9;item b 2 0;order p 1 a 1 b 1;order q 2 a 1;");
        x.release();
        CHECK.due("wouldBe(): p holds the hole", x.wouldBe(), 0);
    }

    /** The same: "would be": nothing comes. */
    private static void wouldBeChangesNothing() {
        WaveWall x = Check.told("holes 1;" + TWO + "item c 3 9;order p 1 a 1 c 1;order q 2 a 1 b 1;");
        x.release();
        x.step(2);
        String was = Check.seen(x);
        for (int i = 0; i < 3; i++) {
            CHECK.due("wouldBe()", x.wouldBe(), 2);
            CHECK.same("all stays", Check.seen(x), was);
            CHECK.due("acts", x.count(6), 2);
        }
    }

    /** Promise 26: "how many can be still; NONE: none can be." */
    private static void noneCanBeUndone() {
        WaveWall x = new WaveWall();
        CHECK.due("undo() of a new one", x.undo(), -1);
        x = Check.told("item a 1 5;order o 1 a 9;");
        String first = Check.seen(x);
        for (int acts = 1; acts <= 3; acts++) {
            for (int i = 0; i < acts; i++) {
                x.stock(0, 1);
            }
            for (int left = acts - 1; left >= 0; left--) {
                CHECK.due("undo()", x.undo(), left);
            }
            CHECK.due("undo() of none", x.undo(), -1);
            CHECK.due("undo() of none again", x.undo(), -1);
            CHECK.same("as at first", Check.seen(x), first);
        }
        x.release();
        Check.tell(x, "item a 1 5;order o 1 a 9;");
        CHECK.due("undo() behind a text", x.undo(), -1);
        CHECK.due("wave()", x.wave(), 1);
    }

    /** Terms 3: "The last 12 can be UNDONE, one by one." */
    private static void lastTwelve() {
        for (int acts = 0; acts <= 40; acts++) {
            WaveWall x = Check.told("item a 1 0;");
            for (int i = 1; i <= acts; i++) {
                x.stock(0, 1);
                CHECK.due("count(6)", x.count(6), Math.min(i, 12));
            }
            int can = Math.min(acts, 12);
            for (int undone = 1; undone <= can; undone++) {
                CHECK.due("undo()", x.undo(), can - undone);
                CHECK.due("STOCK", x.item(0, 1), acts - undone);
            }
            CHECK.due("undo() of none", x.undo(), -1);
            CHECK.due("STOCK", x.item(0, 1), acts - can);
        }
    }

    /** The same, with acts and undoing by turns, so that the row of the past goes round. */
    private static void roundAndRound() {
        WaveWall x = Check.told("item a 1 0;");
        int stock = 0;
        int can = 0;
        int[] turns = {12, -5, 8, -3, 1, 1, -12, 13, -11, 2, -3, 7, -1, 14, -12};
        for (int turn : turns) {
            for (int i = 0; i < turn; i++) {
                x.stock(0, 1);
                stock++;
                can = Math.min(can + 1, 12);
            }
            for (int i = 0; i > turn; i--) {
                int due = can == 0 ? -1 : can - 1;
                stock -= can == 0 ? 0 : 1;
                can = Math.max(can - 1, 0);
                CHECK.due("undo()", x.undo(), due);
            }
            CHECK.due("STOCK", x.item(0, 1), stock);
            CHECK.due("count(6)", x.count(6), can);
        }
    }

    /** Terms 3: "ACTS: a WAVE is RELEASED, UNITS come from the BELT, STOCK comes, an ORDER is put BY." */
    private static void everyActIsUndone() {
        WaveWall x = Check.told("holes 1;item a 1 2;item b 2 1;order p 1 a 1 b 1;order q 2 a 2;");
        String[] seen = new String[6];
        for (int act = 0; act < 6; act++) {
            seen[act] = Check.seen(x);
            CHECK.due("count(6)", x.count(6), act);
            switch (act) {
                case 0 -> CHECK.due("release()", x.release(), 2);
                case 1 -> CHECK.due("step(2)", x.step(2), 2);
                case 2 -> CHECK.due("by(0)", x.by(0), 0);
                case 3 -> CHECK.due("stock(0, 99)", x.stock(0, 99), 1);
                case 4 -> CHECK.due("stock(0, 1): beyond 99", x.stock(0, 99) + x.item(0, 1), 99);
                default -> CHECK.due("step(200)", x.step(200), 2);
            }
        }
        CHECK.wholes(x, 0, 1);
        for (int act = 5; act >= 0; act--) {
            CHECK.due("undo()", x.undo(), act);
            CHECK.same("as it was", Check.seen(x), seen[act]);
        }
    }

    /** Promise 27: "false: none such": neither laid nor gone back to. */
    private static void noSuchKeep() {
        WaveWall x = Check.told("item a 1 5;order o 1 a 9;");
        x.release();
        String was = Check.seen(x);
        for (int k : new int[] {MIN_VALUE, -2, -1, 2, 3, 12, MAX_VALUE}) {
            CHECK.due("keep(" + k + ", false)", x.keep(k, false), false);
            CHECK.due("keep(" + k + ", true)", x.keep(k, true), false);
            CHECK.same("all stays", Check.seen(x), was);
            CHECK.due("acts stay", x.count(6), 1);
        }
        CHECK.due("keep(0, true)", x.keep(0, true), false);
        CHECK.due("keep(1, true)", x.keep(1, true), false);
    }

    /** Promise 27: "false: .. nothing is in it (back)." */
    private static void nothingInIt() {
        WaveWall x = Check.told("item a 1 5;order o 1 a 9;");
        x.release();
        String was = Check.seen(x);
        for (int k = 0; k < 2; k++) {
            CHECK.due("keep(" + k + ", true)", x.keep(k, true), false);
            CHECK.due("acts stay", x.count(6), 1);
            CHECK.same("all stays", Check.seen(x), was);
        }
        for (int k = 0; k < 2; k++) {
            CHECK.due("keep(" + k + ", false)", x.keep(k, false), true);
            CHECK.due("keep(" + (1 - k) + ", true)", x.keep(1 - k, true), k == 1);
        }
        Check.tell(x, "item a 1 5;");
        CHECK.due("keep(0, true) behind a text", x.keep(0, true), false);
        CHECK.due("keep(1, true) behind a text", x.keep(1, true), false);
    }

    /** Terms 3: "KEEPS 0 and 1": each holds its own, the latest laid, as often as it is gone back to. */
    private static void keepsApart() {
        WaveWall x = Check.told("item a 1 0;");
        x.stock(0, 1);
        x.keep(0, false);
        x.stock(0, 1);
        x.keep(1, false);
        x.stock(0, 1);
        for (int i = 0; i < 3; i++) {
            CHECK.due("keep(0, true)", x.keep(0, true), true);
            CHECK.due("STOCK", x.item(0, 1), 1);
            x.stock(0, 50);
            CHECK.due("keep(1, true)", x.keep(1, true), true);
            CHECK.due("STOCK", x.item(0, 1), 2);
            x.stock(0, 50);
        }
        x.keep(0, false);
        x.stock(0, 1);
        x.keep(1, true);
        CHECK.due("STOCK of 1 stays", x.item(0, 1), 2);
        x.keep(0, true);
        CHECK.due("STOCK of 0 laid again", x.item(0, 1), 52);
        // in one p came to be whole first, in the other q
        x = Check.told("item a 1 0;item b 1 0;order p 1 a 1;order q 1 b 1;");
        x.release();
        x.keep(0, false);
        x.stock(0, 1);
        x.step(1);
        x.keep(1, false);
        x.keep(0, true);
        x.stock(1, 1);
        x.step(1);
        x.keep(0, false);
        CHECK.wholes(x, 1);
        x.keep(1, true);
        CHECK.wholes(x, 0);
        x.keep(0, true);
        CHECK.wholes(x, 1);
    }

    /** Terms 3: "KEEPS 0 and 1 hold all but THE TAPE and the TEXT". */
    private static void allButTapeAndText() {
        // whole, with a hole, by, aside, on the belt, waiting and late: all at once
        String text = "holes 1;wave 6 9;item a 1 5;item b 2 0;item c 9 9;order t 0 a 1 b 1;order p 1 a 1;"
                + "order q 2 a 1 b 1;order r 3 a 1 b 1;order s 4 c 2;order u 5 a 9;";
        WaveWall x = Check.told(text);
        String first = Check.seen(x);
        x.keep(1, false);
        x.release();
        x.step(1);
        x.by(0);
        x.step(4);
        CHECK.how(x, 3, 4, 2, 1, 1, 0);
        String second = Check.seen(x);
        x.keep(0, false);
        x.feed(0x686f6c65, 0x7320373b, 0, 0, 0);
        for (int i = 0; i < 2; i++) {
            x.stock(1, 9);
            x.release();
            x.step(200);
            CHECK.due("keep(1, true)", x.keep(1, true), true);
            CHECK.same("as at first", Check.seen(x), first);
            CHECK.due("bytes stay", x.count(7), 20);
            CHECK.due("keep(0, true)", x.keep(0, true), true);
            CHECK.same("as at second", Check.seen(x), second);
            CHECK.due("bytes stay", x.count(7), 20);
            CHECK.due("HOLES as told", x.count(2), 1);
        }
        CHECK.due("wall(8) of what was fed", x.wall(8), 1);
        CHECK.due("HOLES", x.count(2), 7);
    }

    /** Terms 3: "(nothing can be UNDONE when one is gone back to)". */
    private static void nothingUndoneBehindKeep() {
        WaveWall x = Check.told("item a 1 0;");
        for (int i = 0; i < 20; i++) {
            x.stock(0, 1);
        }
        x.keep(0, false);
        CHECK.due("laid: acts stay", x.count(6), 12);
        CHECK.due("undo()", x.undo(), 11);
        CHECK.due("keep(0, true)", x.keep(0, true), true);
        CHECK.due("count(6)", x.count(6), 0);
        CHECK.due("undo()", x.undo(), -1);
        CHECK.due("STOCK", x.item(0, 1), 20);
        x.stock(0, 1);
        CHECK.due("undo() of what came since", x.undo(), 0);
        CHECK.due("undo()", x.undo(), -1);
        CHECK.due("STOCK", x.item(0, 1), 20);
    }

    /** Promise 28: "NONE for another what." */
    private static void noSuchCount() {
        WaveWall x = Check.told("item a 1 1;order o 1 a 1;");
        for (int wild : WILD) {
            CHECK.due("count(" + wild + ")", x.count(wild), -1);
        }
        CHECK.due("count(10)", x.count(10), -1);
        CHECK.due("count(11)", x.count(11), -1);
    }

    /** Promise 28: each what, at the least and at the most that it can be. */
    private static void leastAndMost() {
        WaveWall x = new WaveWall();
        CHECK.counts(x, 0, 0, 4, 4, 0, 0, 0, 0, 4, 30);
        Check.tell(x, "holes 1;wave 1 1;");
        CHECK.counts(x, 0, 0, 1, 1, 0, 0, 0, 0, 1, 1);
        StringBuilder items = new StringBuilder("holes 8;wave 8 60;");
        for (char name = 'a'; name <= 'j'; name++) {
            items.append("item ").append(name).append(name < 'g' ? "1 0;" : "1 1;");
        }
        // 864 units, of which all come late
        Check.tell(x, items + Check.orders(16, 1, 0, "a9b9c9d9e9f9"));
        CHECK.counts(x, 10, 16, 8, 8, 16, 0, 0, 0, 8, 60);
        for (int i = 1; i <= 16; i++) {
            x.release();
            CHECK.counts(x, 10, 16, 8, 8, 16 - i, 54 * i, Math.min(i, 12), 0, 8, 60);
        }
        x.stock(0, 99);
        x.step(99);
        CHECK.counts(x, 10, 16, 8, 0, 0, 765, 12, 0, 8, 60);
        for (int i = 1; i <= 30; i++) {
            x.feed(0, 0, 0, 0, 0);
            CHECK.counts(x, 10, 16, 8, 0, 0, 765, 12, 20 * i, 8, 60);
        }
    }

    /** What it is: "An object is used for at most 512 calls after it has been made": to the last of them. */
    private static void calls512() {
        WaveWall x = new WaveWall();
        // four calls of feed, one of wall, one of keep; then 46 times eleven
        String text = "holes 1;item a 1 1;item b 2 9;order p 1 a 1 b 2;order q 2 a 2;order r 3 b 1;";
        CHECK.due("wall", Check.tell(x, text), 6);
        CHECK.due("keep(1, false)", x.keep(1, false), true);
        for (int calls = 6; calls + 11 <= 512; calls += 11) {
            CHECK.due("release()", x.release(), 3);
            CHECK.due("keep(0, false)", x.keep(0, false), true);
            CHECK.due("step(3)", x.step(3), 3);
            CHECK.due("whole(-1)", x.whole(-1), 1);
            CHECK.due("stock(0, 2)", x.stock(0, 2), 2);
            CHECK.due("wouldBe()", x.wouldBe(), 3);
            CHECK.due("keep(0, true)", x.keep(0, true), true);
            CHECK.due("step(200)", x.step(200), 4);
            CHECK.due("undo()", x.undo(), 0);
            CHECK.due("belt", x.belt(-1, 0), 4);
            CHECK.due("keep(1, true)", x.keep(1, true), true);
        }
        // an act each time, with none undone
        x = Check.told("item a 1 0;");
        for (int calls = 2; calls + 2 <= 512; calls += 2) {
            CHECK.due("stock(0, 1)", x.stock(0, 1), 0);
            CHECK.due("item(0, 1)", x.item(0, 1), Math.min(99, calls / 2));
        }
    }

    private static void needs(String text, int due) {
        CHECK.due("needs() of " + text, Check.told(text).needs(), due);
    }

    private static void best(String text, int needs, int... items) {
        WaveWall x = Check.told(text);
        CHECK.due("best(0) of " + text, x.best(0), needs);
        for (int i = 0; i < items.length; i++) {
            CHECK.due("best(" + (i + 1) + ") of " + text, x.best(i + 1), items[i]);
        }
        CHECK.due("best(" + (items.length + 1) + ") of " + text, x.best(items.length + 1), -1);
    }

    private static void bestSize(String text, int due) {
        CHECK.due("bestSize() of " + text, Check.told(text).bestSize(), due);
    }
}
