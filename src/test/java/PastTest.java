/** Promises 26 to 28: undo, keep, count. */
public final class PastTest {
    private static final Check CHECK = new Check("PastTest");
    private static final String TEXT = "holes 1;wave 2 20;item a 1 2;item b 2 2;"
            + "order p 1 a 1 b 1;order q 2 a 2 b 1;order r 3 b 3;";

    public static void main(String[] args) {
        everyAct();
        twelveAtMost();
        whatIsNoAct();
        keeping();
        keepsAndUndo();
        counting();
        CHECK.end();
    }

    /** Each act, undone, leaves all as it was. */
    private static void everyAct() {
        WaveWall x = Check.told(TEXT);
        String[] seen = new String[6];
        seen[0] = Check.seen(x);
        x.release();
        seen[1] = Check.seen(x);
        x.step(2);
        CHECK.due("aside(-1, 0)", x.aside(-1, 0), 1);
        seen[2] = Check.seen(x);
        CHECK.due("by(0)", x.by(0), 0);
        seen[3] = Check.seen(x);
        CHECK.due("stock(0, 1)", x.stock(0, 1), 1);
        seen[4] = Check.seen(x);
        CHECK.due("step(9)", x.step(9), 3);
        CHECK.due("whole(-1)", x.whole(-1), 2);
        for (int left = 4; left >= 0; left--) {
            CHECK.due("undo()", x.undo(), left);
            CHECK.due("count(6)", x.count(6), left);
            CHECK.due("as it was: " + seen[left] + " is " + Check.seen(x), Check.seen(x).equals(seen[left]), true);
        }
        CHECK.due("undo() of none", x.undo(), -1);
        CHECK.due("count(6)", x.count(6), 0);
        CHECK.due("release() again", x.release(), 2);
        CHECK.due("as it was", Check.seen(x).equals(seen[1]), true);
    }

    private static void twelveAtMost() {
        WaveWall x = Check.told(TEXT);
        for (int i = 1; i <= 30; i++) {
            x.stock(0, 1);
            CHECK.due("count(6)", x.count(6), Math.min(i, 12));
        }
        for (int left = 11; left >= 0; left--) {
            CHECK.due("undo()", x.undo(), left);
            CHECK.due("item(0, 1)", x.item(0, 1), 20 + left);
        }
        CHECK.due("undo() of none", x.undo(), -1);
        CHECK.due("item(0, 1)", x.item(0, 1), 20);
    }

    private static void whatIsNoAct() {
        WaveWall x = Check.told(TEXT);
        x.step(1);
        x.stock(0, 0);
        x.stock(2, 1);
        x.by(0);
        x.keep(0, false);
        x.feed(0, 0, 0, 0, 0);
        x.wave();
        x.needs();
        x.best(0);
        x.wouldBe();
        CHECK.due("count(6)", x.count(6), 0);
        x.release();
        x.release();
        CHECK.due("release() of none", x.release(), -1);
        CHECK.due("count(6)", x.count(6), 2);
        CHECK.due("the tape is not undone", x.undo() + x.count(7), 1 + 20);
    }

    private static void keeping() {
        WaveWall x = Check.told(TEXT);
        for (int k : new int[] {Integer.MIN_VALUE, -1, 2, Integer.MAX_VALUE}) {
            CHECK.due("keep(" + k + ", false)", x.keep(k, false), false);
            CHECK.due("keep(" + k + ", true)", x.keep(k, true), false);
        }
        CHECK.due("keep(0, true) of nothing", x.keep(0, true), false);
        CHECK.due("keep(0, false)", x.keep(0, false), true);
        CHECK.due("keep(1, true) of nothing", x.keep(1, true), false);
        String first = Check.seen(x);
        x.release();
        x.step(2);
        CHECK.due("keep(1, false)", x.keep(1, false), true);
        String second = Check.seen(x);
        CHECK.due("by(0)", x.by(0), 0);
        x.stock(0, 9);
        x.step(9);
        CHECK.due("whole(-1)", x.whole(-1), 2);
        CHECK.due("keep(0, true)", x.keep(0, true), true);
        CHECK.due("as at first: " + first + " is " + Check.seen(x), Check.seen(x).equals(first), true);
        CHECK.due("keep(1, true)", x.keep(1, true), true);
        CHECK.due("as at second: " + second + " is " + Check.seen(x), Check.seen(x).equals(second), true);
        x.step(9);
        CHECK.due("keep(1, true) once more", x.keep(1, true), true);
        CHECK.due("as at second", Check.seen(x).equals(second), true);
        CHECK.due("keep(0, false) over it", x.keep(0, false), true);
        x.step(9);
        x.keep(0, true);
        CHECK.due("as at second", Check.seen(x).equals(second), true);
    }

    private static void keepsAndUndo() {
        WaveWall x = Check.told(TEXT);
        x.release();
        x.keep(0, false);
        CHECK.due("laid: acts stay", x.count(6), 1);
        x.step(1);
        x.feed(1, 2, 3, 4, 5);
        CHECK.due("gone back to nothing: false", x.keep(1, true), false);
        CHECK.due("acts stay", x.count(6), 2);
        CHECK.due("keep(0, true)", x.keep(0, true), true);
        CHECK.due("nothing can be undone", x.count(6), 0);
        CHECK.due("undo()", x.undo(), -1);
        CHECK.due("the tape stays", x.count(7), 20);
        x.step(2);
        CHECK.due("an act behind it", x.count(6), 1);
        CHECK.due("undo()", x.undo(), 0);
        CHECK.due("belt(-1, 0)", x.belt(-1, 0), 4);
        x.step(3);
        x.undo();
        x.keep(0, true);
        CHECK.due("undone acts leave keeps alone", x.belt(-1, 0), 4);
    }

    private static void counting() {
        WaveWall x = Check.told("holes 3;wave 2 20;item a 1 2;item b 2 2;order p 1 a 1 b 1;order q 2 a 2 b 1;order r 3 b 3;");
        CHECK.counts(x, 2, 3, 3, 3, 3, 0, 0, 0, 2, 20);
        x.release();
        CHECK.counts(x, 2, 3, 3, 3, 1, 1, 1, 0, 2, 20);
        x.step(2);
        CHECK.counts(x, 2, 3, 3, 1, 1, 1, 2, 0, 2, 20);
        x.release();
        CHECK.counts(x, 2, 3, 3, 1, 0, 4, 3, 0, 2, 20);
        x.feed(0, 0, 0, 0, 0);
        x.stock(1, 2);
        CHECK.counts(x, 2, 3, 3, 1, 0, 2, 4, 20, 2, 20);
        x.by(1);
        CHECK.counts(x, 2, 3, 3, 2, 0, 2, 5, 20, 2, 20);
        for (int what : new int[] {Integer.MIN_VALUE, -1, 10, Integer.MAX_VALUE}) {
            CHECK.due("count(" + what + ")", x.count(what), -1);
        }
    }
}
