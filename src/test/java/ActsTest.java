/** Promises 12 to 20: release, step, stock, by; belt, aside, hole, whole, stuck. */
public final class ActsTest {
    private static final Check CHECK = new Check("ActsTest");
    private static final String TEXT = "holes 2;wave 3 12;item a 30 5;item b 10 4;item c 10 0;item d 50 9;"
            + "order p 5 a 2 b 1;order q 3 a 4;order r 5 b 2 d 1;order s 9 c 1 d 2;order t 3 d 5;";
    private static final int[] WRONG = {Integer.MIN_VALUE, -2, 100, Integer.MAX_VALUE};

    public static void main(String[] args) {
        releasing();
        parting();
        stepping();
        lateUnits();
        stockBeyond();
        puttingBy();
        putByIsWhole();
        freedByStep();
        freedByPuttingBy();
        freedAgainAndAgain();
        freedAmongSeveral();
        lowestHole();
        whoIsStuck();
        wrongOnes();
        CHECK.end();
    }

    private static void releasing() {
        WaveWall x = Check.told(TEXT);
        CHECK.due("release()", x.release(), 3);
        // b: p 1, r 2; a: q 4, p 1 of 2; d: r 1
        CHECK.belt(x, new int[][] {{0, 1}, {2, 1}, {2, 1}, {1, 0}, {1, 0}, {1, 0}, {1, 0}, {0, 0}, {2, 3}});
        CHECK.aside(x);
        CHECK.holes(x, -1, -1);
        CHECK.how(x, 1, 1, 1, 0, 0);
        CHECK.due("late", x.count(5), 1);
        CHECK.due("units(0, 0, 2)", x.units(0, 0, 2), 1);
        CHECK.due("item(0, 1)", x.item(0, 1), 0);
        CHECK.due("item(1, 1)", x.item(1, 1), 1);
        CHECK.due("item(3, 1)", x.item(3, 1), 8);
        CHECK.due("release() of s, t", x.release(), 2);
        CHECK.due("behind all: belt(-1, 0)", x.belt(-1, 0), 16);
        CHECK.due("behind all: t first", x.belt(9, 0), 4);
        CHECK.due("behind all: then s", x.belt(14, 0), 3);
        CHECK.due("c is late", x.item(2, 2), 1);
        CHECK.due("release() of none", x.release(), -1);
        CHECK.how(x, 1, 1, 1, 1, 1);
        x = Check.told("item a 1 0;order p 1 a 2;");
        CHECK.due("release() without stock", x.release(), 1);
        CHECK.due("nothing on the belt", x.belt(-1, 0), 0);
        CHECK.due("all late", x.count(5), 2);
    }

    private static void parting() {
        WaveWall x = Check.told(TEXT);
        x.release();
        CHECK.due("step(1)", x.step(1), 1);
        CHECK.holes(x, 0, -1);
        CHECK.how(x, 2, 1, 1, 0, 0);
        CHECK.due("step(3)", x.step(3), 3);
        CHECK.holes(x, 0, 2);
        CHECK.how(x, 2, 1, 2, 0, 0);
        CHECK.aside(x, new int[][] {{1, 0}});
        CHECK.due("step(4)", x.step(4), 4);
        CHECK.aside(x, new int[][] {{1, 0}, {1, 0}, {1, 0}, {1, 0}});
        CHECK.due("units(0, 0, 1)", x.units(0, 0, 1), 1);
        CHECK.due("whole(-1)", x.whole(-1), 0);
        // r is whole: its hole is q's, whose four are there, and free again
        CHECK.due("step(9)", x.step(9), 1);
        CHECK.aside(x);
        CHECK.belt(x);
        CHECK.holes(x, 0, -1);
        CHECK.how(x, 2, 4, 4, 0, 0);
        CHECK.wholes(x, 2, 1);
        CHECK.due("stuck()", x.stuck(), 1);
    }

    private static void stepping() {
        WaveWall x = Check.told("wave 8 60;item a 1 99;item b 1 99;order p 1 a 9 b 9;order q 1 a 9 b 9;order r 1 a 9 b 9;");
        CHECK.due("step(1) of nothing", x.step(1), -1);
        x.release();
        for (int n : new int[] {0, -1, 201, Integer.MIN_VALUE, Integer.MAX_VALUE}) {
            CHECK.due("step(" + n + ")", x.step(n), -1);
        }
        CHECK.due("nothing came", x.belt(-1, 0), 54);
        CHECK.due("no act", x.count(6), 1);
        CHECK.due("step(1)", x.step(1), 1);
        CHECK.due("step(52)", x.step(52), 52);
        CHECK.due("step(200)", x.step(200), 1);
        CHECK.due("step(200) of nothing", x.step(200), -1);
        CHECK.due("acts", x.count(6), 4);
        CHECK.wholes(x, 0, 1, 2);
    }

    private static void lateUnits() {
        WaveWall x = Check.told("item a 1 0;order p 2 a 3;order q 1 a 2;order r 2 a 1;order s 0 a 9;wave 1 30;");
        CHECK.due("s", x.release(), 1);
        CHECK.due("q", x.release(), 1);
        CHECK.due("p", x.release(), 1);
        CHECK.due("item(0, 2)", x.item(0, 2), 14);
        CHECK.due("stock(0, 8)", x.stock(0, 8), 8);
        CHECK.due("stock(0, 2): s 1, q 1", x.stock(0, 2), 2);
        CHECK.due("belt(7, 0)", x.belt(7, 0), 3);
        CHECK.due("belt(8, 0)", x.belt(8, 0), 3);
        CHECK.due("belt(9, 0)", x.belt(9, 0), 1);
        CHECK.due("order(3, 3)", Check.order(x, 3, 3), 0);
        CHECK.due("order(1, 3)", Check.order(x, 1, 3), 1);
        CHECK.due("order(0, 3)", Check.order(x, 0, 3), 3);
        CHECK.due("item(0, 1)", x.item(0, 1), 0);
        CHECK.due("stock(0, 99): r waits", x.stock(0, 99), 4);
        CHECK.due("item(0, 1)", x.item(0, 1), 95);
        CHECK.due("item(0, 2)", x.item(0, 2), 0);
        CHECK.due("belt(10, 0)", x.belt(10, 0), 1);
        CHECK.due("belt(13, 0)", x.belt(13, 0), 0);
        CHECK.due("stock(0, 1): none late", x.stock(0, 1), 0);
        CHECK.due("count(6)", x.count(6), 7);
    }

    private static void stockBeyond() {
        WaveWall x = Check.told("item a 1 98;item b 1 0;");
        CHECK.due("stock(0, 1)", x.stock(0, 1), 0);
        CHECK.due("item(0, 1)", x.item(0, 1), 99);
        CHECK.due("stock(0, 1)", x.stock(0, 1), 0);
        CHECK.due("item(0, 1) stays", x.item(0, 1), 99);
        CHECK.due("that was an act", x.count(6), 2);
        CHECK.due("stock(1, 99)", x.stock(1, 99), 0);
        CHECK.due("item(1, 1)", x.item(1, 1), 99);
        for (int n : new int[] {0, -1, 100, Integer.MIN_VALUE, Integer.MAX_VALUE}) {
            CHECK.due("stock(0, " + n + ")", x.stock(0, n), -1);
        }
        for (int item : new int[] {-1, 2, 10, Integer.MIN_VALUE, Integer.MAX_VALUE}) {
            CHECK.due("stock(" + item + ", 1)", x.stock(item, 1), -1);
        }
        CHECK.due("no act", x.count(6), 3);
    }

    private static void puttingBy() {
        WaveWall x = Check.told("holes 1;item a 1 9;item b 2 9;order p 1 a 1 b 1;order q 2 a 2 b 1;");
        CHECK.due("by() of one that waits", x.by(0), -1);
        x.release();
        CHECK.due("by() of one without a hole", x.by(0), -1);
        x.step(3);
        CHECK.holes(x, 0);
        CHECK.aside(x, new int[][] {{1, 0}, {1, 0}});
        CHECK.due("by(1)", x.by(1), -1);
        CHECK.due("by(2)", x.by(2), -1);
        CHECK.due("by(-1)", x.by(-1), -1);
        CHECK.due("by(0)", x.by(0), 0);
        CHECK.how(x, 3, 2);
        CHECK.holes(x, 1);
        CHECK.aside(x);
        CHECK.due("units stay its own", Check.order(x, 0, 2), 1);
        CHECK.due("by(0) again", x.by(0), -1);
        CHECK.due("acts", x.count(6), 3);
        CHECK.due("step(1)", x.step(1), 1);
        CHECK.how(x, 4, 2);
        CHECK.due("by() of a whole one", x.by(0), -1);
        CHECK.wholes(x, 0);
    }

    private static void putByIsWhole() {
        WaveWall x = Check.told("holes 2;item a 1 9;item b 2 9;order p 1 a 1 b 2;order q 1 a 1 b 1;order r 1 a 1 b 1;");
        x.release();
        x.step(3);
        CHECK.holes(x, 0, 1);
        CHECK.due("by(1)", x.by(1), 1);
        CHECK.holes(x, 0, 2);
        x.step(3);
        // q is whole without a hole; p's was free behind its third
        CHECK.wholes(x, 0, 1);
        CHECK.holes(x, -1, 2);
        CHECK.how(x, 4, 4, 2);
        x.step(1);
        CHECK.wholes(x, 0, 1, 2);
    }

    /** A hole freed while they are gone through is for the first one aside, not for those behind. */
    private static void freedByStep() {
        // p has the hole; aside are q, r, r, q, s, s; s can't be whole, so it would hold the hole
        WaveWall x = Check.told("holes 1;wave 8 60;item a 1 9;item b 2 9;item c 3 9;item d 4 0;"
                + "order p 0 a 1 c 1;order q 1 a 1 b 1;order r 2 a 2;order s 3 b 2 d 1;");
        x.release();
        CHECK.due("step(7)", x.step(7), 7);
        CHECK.aside(x, new int[][] {{1, 0}, {2, 0}, {2, 0}, {1, 1}, {3, 1}, {3, 1}});
        CHECK.due("wouldBe()", x.wouldBe(), 3);
        CHECK.due("step(1)", x.step(1), 1);
        CHECK.wholes(x, 0, 1, 2);
        CHECK.holes(x, 3);
        CHECK.how(x, 4, 4, 4, 2);
        CHECK.aside(x);
        CHECK.due("stuck()", x.stuck(), 0b1000);
        CHECK.due("undo()", x.undo(), 2);
        CHECK.wholes(x);
        CHECK.aside(x, new int[][] {{1, 0}, {2, 0}, {2, 0}, {1, 1}, {3, 1}, {3, 1}});
    }

    private static void freedByPuttingBy() {
        // q has the hole; aside are p, s, t, p, t; as q is put by, p comes and is whole at
        // its second: the hole is s's, who lacks one, though both of t are there
        WaveWall x = Check.told("holes 1;wave 4 60;item a 1 9;item b 2 9;item c 3 9;"
                + "order q 0 a 1 c 2;order p 1 a 1 b 1;order s 2 a 1 c 1;order t 3 a 1 b 1;");
        x.release();
        x.step(6);
        CHECK.aside(x, new int[][] {{1, 0}, {2, 0}, {3, 0}, {1, 1}, {3, 1}});
        CHECK.due("by(0)", x.by(0), 0);
        CHECK.wholes(x, 1);
        CHECK.holes(x, 2);
        CHECK.aside(x, new int[][] {{3, 0}, {3, 1}});
        x.step(200);
        CHECK.wholes(x, 1, 0, 2, 3);
        CHECK.holes(x, -1);
    }

    private static void freedAgainAndAgain() {
        WaveWall x = Check.told("holes 1;wave 4 60;item a 1 9;item b 2 9;item c 3 9;"
                + "order q 0 a 1 c 1;order p 1 a 1 b 1;order s 2 a 1 b 1;order t 3 a 1 b 1;");
        x.release();
        CHECK.due("step(7)", x.step(7), 7);
        CHECK.due("aside", x.aside(-1, 0), 6);
        CHECK.due("step(1)", x.step(1), 1);
        CHECK.due("aside", x.aside(-1, 0), 0);
        CHECK.wholes(x, 0, 1, 2, 3);
        CHECK.holes(x, -1);
    }

    private static void freedAmongSeveral() {
        // p and q have the holes; aside are r, s, t, r, t; as p is whole, r is at its second,
        // and hole 0 is s's, ahead of t; then q's hole is t's, whose units are both there
        WaveWall x = Check.told("holes 2;wave 8 60;item a 1 9;item b 2 9;item c 3 9;item d 4 9;"
                + "order p 0 a 1 c 1;order q 1 a 1 d 1;order r 2 a 1 b 1;order s 3 a 1 d 1;order t 4 a 1 b 1;");
        x.release();
        CHECK.due("step(7)", x.step(7), 7);
        CHECK.aside(x, new int[][] {{2, 0}, {3, 0}, {4, 0}, {2, 1}, {4, 1}});
        CHECK.due("step(1)", x.step(1), 1);
        CHECK.wholes(x, 0, 2);
        CHECK.holes(x, 3, 1);
        CHECK.aside(x, new int[][] {{4, 0}, {4, 1}});
        CHECK.due("step(1)", x.step(1), 1);
        CHECK.wholes(x, 0, 2, 1, 4);
        CHECK.holes(x, 3, -1);
        CHECK.due("step(1)", x.step(1), 1);
        CHECK.wholes(x, 0, 2, 1, 4, 3);
        CHECK.holes(x, -1, -1);
    }

    private static void lowestHole() {
        WaveWall x = Check.told("holes 3;wave 5 60;item a 1 9;item b 2 9;item c 3 9;item d 4 9;"
                + "order p 1 a 1 b 1;order q 2 a 1 d 1;order r 3 a 1 b 1;order s 4 c 1 d 1;order t 5 c 1 d 1;");
        x.release();
        x.step(5);
        CHECK.holes(x, -1, 1, -1);
        CHECK.wholes(x, 0, 2);
        CHECK.due("free", x.count(3), 2);
        x.step(1);
        CHECK.holes(x, 3, 1, -1);
        x.step(1);
        CHECK.holes(x, 3, 1, 4);
        CHECK.due("free", x.count(3), 0);
    }

    private static void whoIsStuck() {
        WaveWall x = Check.told("holes 2;item a 1 3;item b 2 0;order p 1 a 1 b 1;order q 2 a 1 b 1;order r 3 a 1;");
        x.release();
        CHECK.due("without holes", x.stuck(), 0);
        x.step(1);
        CHECK.due("p", x.stuck(), 0b001);
        x.step(1);
        CHECK.due("p, q", x.stuck(), 0b011);
        x.step(1);
        CHECK.due("r is aside, not stuck", x.stuck(), 0b011);
        x.stock(1, 1);
        CHECK.due("p's comes", x.stuck(), 0b010);
        x.by(1);
        CHECK.due("q is by", x.stuck(), 0);
        CHECK.wholes(x, 2);
    }

    private static void wrongOnes() {
        WaveWall x = Check.told(TEXT);
        x.release();
        x.step(4);
        for (int wrong : WRONG) {
            CHECK.due("belt(" + wrong + ", 0)", x.belt(wrong, 0), -2);
            CHECK.due("belt(0, " + wrong + ")", x.belt(0, wrong), -2);
            CHECK.due("belt(-1, " + wrong + ")", x.belt(-1, wrong), 5);
            CHECK.due("aside(" + wrong + ", 0)", x.aside(wrong, 0), -2);
            CHECK.due("aside(0, " + wrong + ")", x.aside(0, wrong), -2);
            CHECK.due("aside(-1, " + wrong + ")", x.aside(-1, wrong), 1);
            CHECK.due("hole(" + wrong + ")", x.hole(wrong), -2);
            CHECK.due("whole(" + wrong + ")", x.whole(wrong), -2);
            CHECK.due("by(" + wrong + ")", x.by(wrong), -1);
        }
        CHECK.due("hole(-1)", x.hole(-1), -2);
        CHECK.due("belt(0, 2)", x.belt(0, 2), -2);
        CHECK.due("belt(0, -1)", x.belt(0, -1), -2);
        CHECK.due("belt(5, 0)", x.belt(5, 0), -2);
        CHECK.due("aside(0, 2)", x.aside(0, 2), -2);
        CHECK.due("aside(0, -1)", x.aside(0, -1), -2);
        CHECK.due("aside(1, 0)", x.aside(1, 0), -2);
    }
}
