/** Promises 4 to 7: item, order, units, alike. */
public final class ToldTest {
    private static final Check CHECK = new Check("ToldTest");
    private static final String TEXT = "holes 1;item a 30 3;item b 10 0;item c 0 99;"
            + "order p 5 b 1 a 2;order q 3 a 4;order r 99 c 9 b 2 a 1;";
    private static final int[] WRONG = {Integer.MIN_VALUE, -2, -1, 3, 4, 16, 17, Integer.MAX_VALUE};

    public static void main(String[] args) {
        atFirst();
        whileItGoes();
        wrongOnes();
        CHECK.end();
    }

    private static void atFirst() {
        WaveWall x = Check.told(TEXT);
        items(x, new int[][] {{30, 3, 0}, {10, 0, 0}, {0, 99, 0}});
        orders(x, new int[][] {{5, 3, 0, 0, 0, -1}, {3, 4, 0, 0, 0, -1}, {99, 12, 0, 0, 0, -1}});
        int[][] need = {{2, 1, 0}, {4, 0, 0}, {1, 2, 9}};
        for (int order = 0; order < 3; order++) {
            for (int item = 0; item < 3; item++) {
                CHECK.due("units(" + order + ", " + item + ", 0)", x.units(order, item, 0), need[order][item]);
                CHECK.due("units(" + order + ", " + item + ", 1)", x.units(order, item, 1), 0);
                CHECK.due("units(" + order + ", " + item + ", 2)", x.units(order, item, 2), 0);
            }
        }
        int[][] alike = {{2, 1, 2}, {1, 1, 1}, {2, 1, 3}};
        for (int order = 0; order < 3; order++) {
            for (int other = 0; other < 3; other++) {
                CHECK.due("alike(" + order + ", " + other + ")", x.alike(order, other), alike[order][other]);
            }
        }
    }

    /** q is earliest and has the three a there are; p and r come late. */
    private static void whileItGoes() {
        WaveWall x = Check.told(TEXT);
        CHECK.due("release()", x.release(), 3);
        items(x, new int[][] {{30, 0, 4}, {10, 0, 3}, {0, 90, 0}});
        orders(x, new int[][] {{5, 3, 0, 3, 1, -1}, {3, 4, 0, 1, 1, -1}, {99, 12, 0, 3, 1, -1}});
        // c is at place 0, so r's nine come ahead of q's three
        CHECK.due("step(200)", x.step(200), 12);
        orders(x, new int[][] {{5, 3, 0, 3, 1, -1}, {3, 4, 0, 1, 1, -1}, {99, 12, 9, 3, 2, 0}});
        CHECK.due("units(2, 2, 1)", x.units(2, 2, 1), 9);
        CHECK.due("units(2, 0, 2)", x.units(2, 0, 2), 1);
        CHECK.due("units(2, 1, 2)", x.units(2, 1, 2), 2);
        CHECK.due("units(1, 0, 1)", x.units(1, 0, 1), 0);
        CHECK.due("by(2)", x.by(2), 0);
        orders(x, new int[][] {{5, 3, 0, 3, 1, -1}, {3, 4, 3, 1, 2, 0}, {99, 12, 9, 3, 3, -1}});
        CHECK.due("units(1, 0, 1)", x.units(1, 0, 1), 3);
        CHECK.due("stock(0, 1)", x.stock(0, 1), 1);
        CHECK.due("step(1)", x.step(1), 1);
        orders(x, new int[][] {{5, 3, 0, 3, 1, -1}, {3, 4, 4, 0, 4, -1}, {99, 12, 9, 3, 3, -1}});
        items(x, new int[][] {{30, 0, 3}, {10, 0, 3}, {0, 90, 0}});
    }

    private static void wrongOnes() {
        WaveWall x = Check.told(TEXT);
        for (int wrong : WRONG) {
            CHECK.due("item(" + wrong + ", 0)", x.item(wrong, 0), -1);
            CHECK.due("item(0, " + wrong + ")", x.item(0, wrong), -1);
            CHECK.due("order(" + wrong + ", 0)", Check.order(x, wrong, 0), Check.NO_SUCH_ELEMENT);
            CHECK.due("units(" + wrong + ", 0, 0)", x.units(wrong, 0, 0), -1);
            CHECK.due("units(0, " + wrong + ", 0)", x.units(0, wrong, 0), -1);
            CHECK.due("units(0, 0, " + wrong + ")", x.units(0, 0, wrong), -1);
            CHECK.due("alike(" + wrong + ", 0)", x.alike(wrong, 0), -1);
            CHECK.due("alike(0, " + wrong + ")", x.alike(0, wrong), -1);
        }
        for (int wrong : new int[] {Integer.MIN_VALUE, -1, 6, Integer.MAX_VALUE}) {
            CHECK.due("order(0, " + wrong + ")", Check.order(x, 0, wrong), Check.NO_SUCH_ELEMENT);
        }
    }

    private static void items(WaveWall x, int[][] due) {
        for (int item = 0; item < due.length; item++) {
            for (int what = 0; what < 3; what++) {
                CHECK.due("item(" + item + ", " + what + ")", x.item(item, what), due[item][what]);
            }
        }
    }

    private static void orders(WaveWall x, int[][] due) {
        for (int order = 0; order < due.length; order++) {
            for (int what = 0; what < 6; what++) {
                CHECK.due("order(" + order + ", " + what + ")", Check.order(x, order, what), due[order][what]);
            }
        }
    }
}
