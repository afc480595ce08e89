/** Promises 1 to 3: a new object, feed, wall. */
public final class TextTest {
    private static final Check CHECK = new Check("TextTest");

    public static void main(String[] args) {
        newObject();
        feeding();
        lines();
        faultsOfTokens();
        faultsOfGrammar();
        faultsOfNames();
        faultsOfNumbers();
        faultsOfTooMany();
        leastPlaceFirst();
        whatWallEmpties();
        whatFaultsLeave();
        CHECK.end();
    }

    private static void newObject() {
        WaveWall x = new WaveWall();
        int[] counts = {0, 0, 4, 4, 0, 0, 0, 0, 4, 30};
        for (int what = 0; what < counts.length; what++) {
            CHECK.due("new: count(" + what + ")", x.count(what), counts[what]);
        }
        CHECK.due("new: item(0, 0)", x.item(0, 0), -1);
        CHECK.due("new: order(0, 0)", Check.order(x, 0, 0), Check.NO_SUCH_ELEMENT);
        CHECK.due("new: units(0, 0, 0)", x.units(0, 0, 0), -1);
        CHECK.due("new: alike(0, 0)", x.alike(0, 0), -1);
        CHECK.due("new: stock(0, 1)", x.stock(0, 1), -1);
        CHECK.due("new: by(0)", x.by(0), -1);
        CHECK.due("new: belt(-1, 9)", x.belt(-1, 9), 0);
        CHECK.due("new: aside(-1, 9)", x.aside(-1, 9), 0);
        CHECK.due("new: whole(-1)", x.whole(-1), 0);
        CHECK.due("new: stuck()", x.stuck(), 0);
        CHECK.due("new: sizes(1, 0)", x.sizes(1, 0), 0);
        CHECK.due("new: sizes(8, 1)", x.sizes(8, 1), 0);
        CHECK.due("new: wouldBe()", x.wouldBe(), 0);
        CHECK.due("new: keep(0, true)", x.keep(0, true), false);
        CHECK.due("new: wall(0)", x.wall(0), 0);
        CHECK.due("new: wall(1)", x.wall(1), -1);
    }

    private static void feeding() {
        WaveWall x = new WaveWall();
        for (int i = 1; i <= 30; i++) {
            CHECK.due("feed " + i, x.feed(i, i, i, i, i), 20 * i);
        }
        CHECK.due("feed beyond 600", x.feed(0, 0, 0, 0, 0), -1);
        CHECK.due("count(7) of a full tape", x.count(7), 600);
        CHECK.due("wall(601)", x.wall(601), -1);
        CHECK.due("the tape stays", x.count(7), 600);
        CHECK.due("wall(600) of zeros", x.wall(600), -2 - 1);
        CHECK.due("the tape is empty", x.count(7), 0);
        // "hole" "s 7;" and numbers whose highest byte is above 127
        CHECK.due("feed of signs", x.feed(0x686f6c65, 0x7320373b, 0xff000000, 0, 0), 20);
        CHECK.due("wall(9): byte 255", x.wall(9), -2 - (8 * 8 + 1));
        x.feed(0x686f6c65, 0x7320373b, 0xff000000, 0, 0);
        CHECK.due("wall(8): the first bytes alone", x.wall(8), 1);
        CHECK.due("holes told", x.count(2), 7);
        CHECK.due("all of the tape is gone", x.count(7), 0);
        String full = "item a 1 1;";
        while (full.length() < 600) {
            full += full.length() % 2 == 0 ? " " : "\n";
        }
        CHECK.due("a text of 600 bytes", Check.tell(x, full), 1);
    }

    private static void lines() {
        says("", 0);
        says(" \n \n", 0);
        says("holes 1;", 1);
        says("holes 8;", 1);
        says("holes08;", 1);
        says("wave 1 1;", 1);
        says("wave 8 60;wave", Check.fault(10, 2));
        says("wave 8 60;", 1);
        says("item a 0 0;item zzzzzz 99 99;", 2);
        says("itema1 2;", Check.fault(0, 1));
        says("item a1 2;order b3a4;", 2);
        says("\nitem\n a\n 01 02 ;\n\n order  b 00 a 09\n;\n", 2);
        says("item a 1 1;item b 1 1;order o 5 b 1 a 9;holes 2;wave 2 2;", 5);
        says("item a 1 1;order hole 1 a 1;order waves 1 a 1;order items 1 a 1;order orde 1 a 1;", 5);
    }

    private static void faultsOfTokens() {
        says("item a 1 100;", Check.fault(9, 1));
        says("item abcdefg 1 1;", Check.fault(5, 1));
        says("item abcdef 1 1;", 1);
        says("item A 1 1;", Check.fault(5, 1));
        says("item\ta 1 1;", Check.fault(4, 1));
        says("item a -1 1;", Check.fault(7, 1));
        says("item a 1 1,", Check.fault(10, 1));
        says("item a 1 1;\r", Check.fault(11, 1));
        says("item a 1 1;{", Check.fault(11, 1));
        says("item a 1 1;`", Check.fault(11, 1));
        says("item a 1 1:", Check.fault(10, 1));
        says("item a 1 1/", Check.fault(10, 1));
        says("item a 1 1;" + (char) 233, Check.fault(11, 1));
        says("holess 1;", Check.fault(0, 1));
        says("itemitemitem", Check.fault(0, 1));
    }

    private static void faultsOfGrammar() {
        says(";", Check.fault(0, 1));
        says("1", Check.fault(0, 1));
        says("a", Check.fault(0, 1));
        says("holes", Check.fault(5, 1));
        says("holes ", Check.fault(6, 1));
        says("holes a;", Check.fault(6, 1));
        says("holes ;", Check.fault(6, 1));
        says("holes 1", Check.fault(7, 1));
        says("holes 1 1;", Check.fault(8, 1));
        says("wave 3;", Check.fault(6, 1));
        says("wave 3 3 3;", Check.fault(9, 1));
        says("item 1 1 1;", Check.fault(5, 1));
        says("item item 1 1;", Check.fault(5, 1));
        says("item holes 1 1;", Check.fault(5, 1));
        says("item wave 1 1;", Check.fault(5, 1));
        says("item order 1 1;", Check.fault(5, 1));
        says("item a 1;", Check.fault(8, 1));
        says("item a b 1;", Check.fault(7, 1));
        says("item a 1 1 1;", Check.fault(11, 1));
        says("item a 1 1;;", Check.fault(11, 1));
        says("item a 1 1;order order 1 a 1;", Check.fault(17, 1));
        says("item a 1 1;order o a 1;", Check.fault(19, 1));
        says("item a 1 1;order o 1;", Check.fault(20, 1));
        says("item a 1 1;order o 1 2;", Check.fault(21, 1));
        says("item a 1 1;order o 1 a;", Check.fault(22, 1));
        says("item a 1 1;order o 1 a 1 2;", Check.fault(25, 1));
        says("item a 1 1;order o 1 item 1;", Check.fault(21, 1));
        says("item a 1 1;order o 1 a 1 item b 1 1;", Check.fault(25, 1));
        says("item a 1 1;order o 1 a 1", Check.fault(24, 1));
        says("item a 1 1;order o 1 a 1  ", Check.fault(26, 1));
    }

    private static void faultsOfNames() {
        says("item a 1 1;item a 1 1;", Check.fault(16, 2));
        says("item a 1 1;order a 1 a 1;", Check.fault(17, 2));
        says("item a 1 1;order o 1 a 1;order o 1 a 1;", Check.fault(31, 2));
        says("item a 1 1;order o 1 a 1;item o 1 1;", Check.fault(30, 2));
        says("item a 1 1;order o 1 a 1 a 1;", Check.fault(25, 2));
        says("item a 1 1;item b 1 1;order o 1 a 1 b 1 a 1;", Check.fault(40, 2));
        says("holes 1;holes 1;", Check.fault(8, 2));
        says("holes 1;wave 1 1;holes", Check.fault(17, 2));
        says("wave 1 1;holes 1;wave 1 1;", Check.fault(17, 2));
        says("order o 1 a 1;item a 1 1;", Check.fault(10, 3));
        says("item a 1 1;order o 1 o 1;", Check.fault(21, 3));
        says("item a 1 1;order o 1 a 1 b 1;", Check.fault(25, 3));
        says("item a 1 1;order o 1 a 1;order p 1 o 1;", Check.fault(35, 3));
        says("item ab 1 1;order o 1 a 1;", Check.fault(22, 3));
    }

    private static void faultsOfNumbers() {
        says("holes 0;", Check.fault(6, 4));
        says("holes 00;", Check.fault(6, 4));
        says("holes 9;", Check.fault(6, 4));
        says("wave 0 1;", Check.fault(5, 4));
        says("wave 9 1;", Check.fault(5, 4));
        says("wave 1 0;", Check.fault(7, 4));
        says("wave 1 61;", Check.fault(7, 4));
        says("item a 1 1;order o 1 a 0;", Check.fault(23, 4));
        says("item a 1 1;order o 1 a 10;", Check.fault(23, 4));
        says("item a 1 1;order o 99 a 9;", 2);
    }

    private static void faultsOfTooMany() {
        String ten = "";
        for (char name = 'a'; name <= 'j'; name++) {
            ten += "item " + name + " 1 1;";
        }
        says(ten, 10);
        says(ten + "item k 1 1;", Check.fault(110, 5));
        says(ten + "item", Check.fault(110, 5));
        String six = ten + "order o 1 a 1 b 1 c 1 d 1 e 1 f 1";
        says(six + ";", 11);
        says(six + " g 1;", Check.fault(144, 5));
        says(six + " a 1;", Check.fault(144, 2));
        says(six + " x 1;", Check.fault(144, 3));
        says(six + " item", Check.fault(144, 1));
        says(six + " 1", Check.fault(144, 1));
        String sixteen = "item a 1 1;";
        for (char name = 'b'; name <= 'q'; name++) {
            sixteen += "order " + name + " 1 a 1;";
        }
        says(sixteen, 17);
        says(sixteen + "order r 1 a 1;", Check.fault(235, 5));
        says(sixteen + "holes 1;wave 1 1;item r 1 1;", 20);
    }

    private static void leastPlaceFirst() {
        says("holes 9;?", Check.fault(6, 4));
        says("?holes 9;", Check.fault(0, 1));
        says("item a 1 1;item a 100 1;", Check.fault(16, 2));
        says("item a 100 1;item a 1 1;", Check.fault(7, 1));
        says("item a 1 1;order a 1 b 0;", Check.fault(17, 2));
        says("item a 1 1;order o 1 b 0;", Check.fault(21, 3));
    }

    private static void whatWallEmpties() {
        WaveWall x = Check.told("holes 1;item a 1 3;order o 1 a 2;order p 2 a 3;");
        x.release();
        x.step(3);
        x.keep(0, false);
        x.keep(1, false);
        CHECK.due("aside before", x.aside(-1, 0), 0);
        CHECK.due("whole before", x.whole(-1), 1);
        CHECK.due("late before", x.count(5), 2);
        CHECK.due("told again", Check.tell(x, "item b 7 8;order q 3 b 1;"), 2);
        int[] counts = {1, 1, 4, 4, 1, 0, 0, 0, 4, 30};
        for (int what = 0; what < counts.length; what++) {
            CHECK.due("told again: count(" + what + ")", x.count(what), counts[what]);
        }
        CHECK.due("told again: belt", x.belt(-1, 0), 0);
        CHECK.due("told again: aside", x.aside(-1, 0), 0);
        CHECK.due("told again: whole", x.whole(-1), 0);
        CHECK.due("told again: hole(0)", x.hole(0), -1);
        CHECK.due("told again: undo()", x.undo(), -1);
        CHECK.due("told again: keep(0, true)", x.keep(0, true), false);
        CHECK.due("told again: keep(1, true)", x.keep(1, true), false);
        CHECK.due("told again: PLACE", x.item(0, 0), 7);
        CHECK.due("told again: STOCK", x.item(0, 1), 8);
        CHECK.due("told again: units(0, 0, 0)", x.units(0, 0, 0), 1);
        CHECK.due("told again: units(0, 0, 1)", x.units(0, 0, 1), 0);
        CHECK.due("told again: order(0, 4)", Check.order(x, 0, 4), 0);
    }

    private static void whatFaultsLeave() {
        WaveWall x = Check.told("holes 3;wave 2 9;item a 1 3;order o 1 a 2;");
        x.release();
        x.step(1);
        x.keep(1, false);
        Check.feed(x, "holes 5;wave 3 3;item b 9 9;order p 3 b 9;oops");
        CHECK.due("wall(-1)", x.wall(-1), -1);
        CHECK.due("wall(-1): the tape stays", x.count(7), 60);
        CHECK.due("wall(min)", x.wall(Integer.MIN_VALUE), -1);
        CHECK.due("wall(max)", x.wall(Integer.MAX_VALUE), -1);
        CHECK.due("wall(61)", x.wall(61), -1);
        CHECK.due("fault", x.wall(46), Check.fault(42, 1));
        int[] counts = {1, 1, 3, 2, 0, 0, 2, 0, 2, 9};
        for (int what = 0; what < counts.length; what++) {
            CHECK.due("fault: count(" + what + ")", x.count(what), counts[what]);
        }
        CHECK.due("fault: item(0, 0)", x.item(0, 0), 1);
        CHECK.due("fault: hole(0)", x.hole(0), 0);
        CHECK.due("fault: belt", x.belt(-1, 0), 1);
        CHECK.due("fault: keep(1, true)", x.keep(1, true), true);
    }

    private static void says(String text, int answer) {
        CHECK.due("wall of '" + text + "'", Check.tell(new WaveWall(), text), answer);
    }
}
