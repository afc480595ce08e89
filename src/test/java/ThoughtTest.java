/** Promises 21 to 25: needs, best, sizes, bestSize, wouldBe. */
public final class ThoughtTest {
    private static final Check CHECK = new Check("ThoughtTest");
    private static final String TEXT = "holes 2;wave 3 12;item a 30 5;item b 10 4;item c 10 0;item d 50 9;"
            + "order p 5 a 2 b 1;order q 3 a 4;order r 5 b 2 d 1;order s 9 c 1 d 2;order t 3 d 5;";

    public static void main(String[] args) {
        ordinary();
        wholeAtOnce();
        lateOnesHold();
        bestIsFirstByNumbers();
        bestIsBetter();
        sixPicksAtMost();
        sizes();
        sizesOfUnits();
        wouldBe();
        thoughtsChangeNothing();
        CHECK.end();
    }

    private static void ordinary() {
        WaveWall x = Check.told(TEXT);
        CHECK.due("needs()", x.needs(), 3);
        best(x, 2, 0, 1, 3);
        x.release();
        CHECK.due("needs() of t, s", x.needs(), 1);
        best(x, 1, 3);
        x.release();
        CHECK.due("needs() of none", x.needs(), 0);
        best(x, -1);
    }

    private static void wholeAtOnce() {
        // one behind the other, each whole by its last unit: one hole, whatever the wall has
        WaveWall x = Check.told("holes 1;item a 1 9;order p 1 a 2;order q 2 a 3;order r 3 a 1;");
        CHECK.due("needs()", x.needs(), 1);
        // p's hole counts while its last unit comes, and is free behind it, ahead of q's first
        x = Check.told("item a 1 9;item b 2 9;order p 1 a 1 b 1;order q 2 b 1;");
        CHECK.due("needs()", x.needs(), 1);
        x = Check.told("item a 1 9;item b 2 9;order p 2 a 1 b 1;order q 1 b 1;");
        CHECK.due("needs() with q ahead", x.needs(), 2);
    }

    private static void lateOnesHold() {
        WaveWall x = Check.told("item a 1 3;order p 1 a 2;order q 2 a 2;order r 3 a 2;");
        CHECK.due("needs(): q to the end, r never", x.needs(), 1);
        x = Check.told("item a 1 1;item b 2 9;order p 1 a 2;order q 2 b 1;order r 3 b 1;");
        CHECK.due("needs(): p to the end", x.needs(), 2);
        x = Check.told("item a 1 1;item b 2 0;item c 3 1;order p 1 a 1 b 1;order q 2 c 1;");
        CHECK.due("needs(): what has no pick is late too", x.needs(), 2);
        best(x, 1, 2, 0);
    }

    private static void bestIsFirstByNumbers() {
        // by places c, b, a; of like needs by numbers
        WaveWall x = Check.told("item a 30 9;item b 20 9;item c 10 9;order p 1 c 1;order q 1 b 1;order r 1 a 1;");
        CHECK.due("needs()", x.needs(), 1);
        best(x, 1, 0, 1, 2);
        x = Check.told("item a 1 9;item b 9 9;item c 5 9;order p 1 a 1 b 1 c 1;");
        best(x, 1, 0, 1, 2);
    }

    private static void bestIsBetter() {
        // p has a, b; q has c, d; r has e, f: by places a, c, e, b, d, f
        WaveWall x = Check.told("item a 1 9;item c 2 9;item e 3 9;item b 4 9;item d 5 9;item f 6 9;"
                + "order p 1 a 1 b 1;order q 1 c 1 d 1;order r 1 e 1 f 1;");
        CHECK.due("needs()", x.needs(), 3);
        best(x, 1, 0, 3, 1, 4, 2, 5);
    }

    private static void sixPicksAtMost() {
        String items = "item a 1 9;item b 2 9;item c 3 9;item d 4 9;item e 5 9;item f 6 9;item g 7 0;";
        WaveWall x = Check.told(items + "order p 1 a 1 b 1 c 1 d 1 e 1 f 1;order q 1 g 1;");
        best(x, 1, 0, 1, 2, 3, 4, 5);
        x.stock(6, 1);
        CHECK.due("seven picks", x.pick(-1, 0), 7);
        CHECK.due("needs() of seven", x.needs(), 1);
        for (int what : new int[] {Integer.MIN_VALUE, -1, 0, 1, 7, 8, Integer.MAX_VALUE}) {
            CHECK.due("best(" + what + ") of seven", x.best(what), -2);
        }
    }

    private static void sizes() {
        WaveWall x = Check.told(TEXT);
        int[] waves = {5, 3, 2, 2, 2, 2, 2, 2};
        int[] picks = {8, 6, 5, 5, 5, 5, 5, 5};
        for (int size = 1; size <= 8; size++) {
            CHECK.due("sizes(" + size + ", 0)", x.sizes(size, 0), waves[size - 1]);
            CHECK.due("sizes(" + size + ", 1)", x.sizes(size, 1), picks[size - 1]);
        }
        CHECK.due("bestSize()", x.bestSize(), 3);
        for (int wrong : new int[] {Integer.MIN_VALUE, -1, 0, 9, Integer.MAX_VALUE}) {
            CHECK.due("sizes(" + wrong + ", 0)", x.sizes(wrong, 0), -1);
        }
        for (int wrong : new int[] {Integer.MIN_VALUE, -1, 2, Integer.MAX_VALUE}) {
            CHECK.due("sizes(1, " + wrong + ")", x.sizes(1, wrong), -1);
        }
        x.release();
        CHECK.due("sizes(1, 0) of those that wait", x.sizes(1, 0), 2);
        CHECK.due("sizes(1, 1): c without stock too", x.sizes(1, 1), 3);
        CHECK.due("sizes(2, 1)", x.sizes(2, 1), 2);
        CHECK.due("bestSize()", x.bestSize(), 2);
        x.release();
        CHECK.due("sizes(1, 0) of none", x.sizes(1, 0), 0);
        CHECK.due("bestSize() of none", x.bestSize(), 1);
    }

    private static void sizesOfUnits() {
        WaveWall x = Check.told("wave 1 9;item a 1 0;order p 1 a 3;order q 1 a 3;order r 1 a 3;order s 1 a 3;");
        CHECK.due("sizes(4, 0): nine units at most", x.sizes(4, 0), 2);
        CHECK.due("sizes(4, 1)", x.sizes(4, 1), 2);
        CHECK.due("sizes(3, 1)", x.sizes(3, 1), 2);
        CHECK.due("bestSize()", x.bestSize(), 2);
    }

    private static void wouldBe() {
        WaveWall x = Check.told(TEXT);
        CHECK.due("wouldBe() of an empty belt", x.wouldBe(), 0);
        x.release();
        CHECK.due("wouldBe(): q, r", x.wouldBe(), 2);
        x.step(9);
        CHECK.due("wouldBe(): they are", x.wouldBe(), 2);
        x.stock(0, 1);
        CHECK.due("wouldBe(): p too", x.wouldBe(), 3);
        x = Check.told("holes 1;item a 1 9;item b 2 0;order p 1 a 1 b 1;order q 2 a 1;");
        x.release();
        CHECK.due("wouldBe(): q finds no hole", x.wouldBe(), 0);
        x.step(2);
        x.by(0);
        CHECK.due("wouldBe(): q had one", x.wouldBe(), 1);
        x = Check.told("holes 8;wave 8 60;item a 1 99;item b 1 99;item c 1 99;item d 1 99;item e 1 99;item f 1 99;"
                + "order p 1 a 9 b 9 c 9 d 9 e 9 f 9;order q 1 a 9 b 9 c 9 d 9 e 9 f 9;"
                + "order r 1 a 9 b 9 c 9 d 9 e 9 f 9;order s 1 a 9 b 9 c 9 d 9 e 9 f 9;"
                + "order t 1 a 9 b 9 c 9 d 9 e 9 f 9;order u 1 a 9 b 9 c 9 d 9 e 9 f 9;");
        for (int i = 0; i < 6; i++) {
            x.release();
        }
        CHECK.due("belt(-1, 0)", x.belt(-1, 0), 324);
        CHECK.due("wouldBe(): more than a step takes", x.wouldBe(), 6);
    }

    private static void thoughtsChangeNothing() {
        WaveWall x = Check.told(TEXT);
        x.release();
        x.step(2);
        x.needs();
        x.best(0);
        x.sizes(8, 0);
        x.bestSize();
        x.wouldBe();
        CHECK.due("belt(-1, 0)", x.belt(-1, 0), 7);
        CHECK.due("whole(-1)", x.whole(-1), 0);
        CHECK.due("hole(1)", x.hole(1), 2);
        CHECK.due("count(4)", x.count(4), 2);
        CHECK.due("count(6)", x.count(6), 2);
    }

    private static void best(WaveWall x, int needs, int... items) {
        CHECK.due("best(0)", x.best(0), needs);
        for (int i = 0; i < items.length; i++) {
            CHECK.due("best(" + (i + 1) + ")", x.best(i + 1), items[i]);
        }
        for (int what : new int[] {items.length + 1, 7, -1, -2, Integer.MIN_VALUE, Integer.MAX_VALUE}) {
            CHECK.due("best(" + what + ")", x.best(what), -1);
        }
    }
}
