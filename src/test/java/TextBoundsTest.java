import static java.lang.Integer.MAX_VALUE;
import static java.lang.Integer.MIN_VALUE;

/** Terms 1 and promises 1 to 3: a test for each sentence that names a bound; the sentence stands above it. */
public final class TextBoundsTest {
    private static final Check CHECK = new Check("TextBoundsTest");
    private static final String[] LINE_WORDS = {"holes", "wave", "item", "order"};

    public static void main(String[] args) {
        newObject();
        highestByteFirst();
        fullTape();
        blanks();
        signsInName();
        signsBehindNumber();
        wordsOfSix();
        numbersOfTwo();
        semicolonAlone();
        noLines();
        holes();
        waves();
        items();
        orders();
        itemsOfOrder();
        unitsOfItem();
        numberedAsTold();
        namesButLineWords();
        noTwoAlike();
        leastPlace();
        firstOfList();
        everyEnd();
        endOfFullTape();
        nameTold();
        secondLine();
        notToldAhead();
        oneTooMany();
        firstBytes();
        fromNowOn();
        tapeIsEmpty();
        tapeStays();
        allIsNew();
        allElseStays();
        CHECK.end();
    }

    /** Promise 1: "No ITEMS, no ORDERS." */
    private static void newObject() {
        WaveWall x = new WaveWall();
        CHECK.counts(x, 0, 0, 4, 4, 0, 0, 0, 0, 4, 30);
        for (int what = -1; what <= 6; what++) {
            CHECK.due("item(0, " + what + ")", x.item(0, what), -1);
            CHECK.due("order(0, " + what + ")", Check.order(x, 0, what), Check.NO_SUCH_ELEMENT);
            CHECK.due("units(0, 0, " + what + ")", x.units(0, 0, what), -1);
            CHECK.due("pick(-1, " + what + ")", x.pick(-1, what), 0);
            CHECK.due("best(" + what + ")", x.best(what), -1);
        }
        CHECK.picks(x);
        CHECK.belt(x);
        CHECK.aside(x);
        CHECK.wholes(x);
        CHECK.holes(x, -1, -1, -1, -1);
        CHECK.due("wave()", x.wave(), 0);
        CHECK.due("release()", x.release(), -1);
        CHECK.due("stock(0, 1)", x.stock(0, 1), -1);
        CHECK.due("by(0)", x.by(0), -1);
        CHECK.due("undo()", x.undo(), -1);
        CHECK.due("keep(0, true)", x.keep(0, true), false);
        CHECK.due("keep(0, false)", x.keep(0, false), true);
        CHECK.due("keep(0, true) of what was laid", x.keep(0, true), true);
        CHECK.counts(x, 0, 0, 4, 4, 0, 0, 0, 0, 4, 30);
    }

    /** Promise 2: "Twenty bytes come behind THE TAPE, of each number the highest first: how many it has". */
    private static void highestByteFirst() {
        WaveWall x = new WaveWall();
        // "item", " abc", "def ", "12 3", "4;\n "
        CHECK.due("feed", x.feed(0x6974656d, 0x20616263, 0x64656620, 0x31322033, 0x343b0a20), 20);
        CHECK.due("feed behind it", Check.feed(x, "order o 7 abcdef 8; "), 40);
        CHECK.due("count(7)", x.count(7), 40);
        CHECK.due("wall(40)", x.wall(40), 2);
        CHECK.due("PLACE", x.item(0, 0), 12);
        CHECK.due("STOCK", x.item(0, 1), 34);
        CHECK.due("UNITS", x.units(0, 0, 0), 8);
    }

    /** Terms 1: "THE TAPE has 600 bytes." Promise 2: "NONE, and none come, if it would have more than 600." */
    private static void fullTape() {
        WaveWall x = new WaveWall();
        for (int i = 1; i < 30; i++) {
            CHECK.due("feed", Check.feed(x, "\n                   "), 20 * i);
        }
        CHECK.due("the thirtieth", Check.feed(x, "            holes 7;"), 600);
        for (int i = 0; i < 3; i++) {
            CHECK.due("one more", x.feed(-1, MIN_VALUE, MAX_VALUE, 0, 0x3f3f3f3f), -1);
            CHECK.due("none come", x.count(7), 600);
        }
        CHECK.due("wall(600)", x.wall(600), 1);
        CHECK.due("the 600th byte is read", x.count(2), 7);
        CHECK.due("feed of the empty tape", Check.feed(x, "holes 3;"), 20);
        CHECK.due("wall(8)", x.wall(8), 1);
        CHECK.due("the first byte again", x.count(2), 3);
    }

    /** Terms 1: "Blanks, 32, 10, part TOKENS and mean nothing else". */
    private static void blanks() {
        for (int sign = 0; sign < 256; sign++) {
            boolean blank = sign == 32 || sign == 10;
            says((char) sign + "holes 1;", blank ? 1 : Check.fault(0, 1));
            says("holes 1;" + (char) sign, blank ? 1 : Check.fault(8, 1));
        }
        says(" \n\n  holes\n\n 1 \n ;\n\n  ", 1);
        says("ho les 1;", Check.fault(0, 1));
        says("item a 1 2 3;", Check.fault(11, 1));
        says("item a 12 3;", 1);
        says("item a1 2;", 1);
    }

    /** Terms 1: "all else are no TOKENS", where letters stand together. */
    private static void signsInName() {
        for (int sign = 0; sign < 256; sign++) {
            boolean fits = sign >= 'a' && sign <= 'z' || sign == 32 || sign == 10;
            boolean digit = sign >= '0' && sign <= '9';
            // a digit is PLACE, so that the second number is one too many
            says("item a" + (char) sign + " 1 1;", fits ? 1 : digit ? Check.fault(10, 1) : Check.fault(6, 1));
        }
    }

    /** Terms 1: "all else are no TOKENS", where digits stand together. */
    private static void signsBehindNumber() {
        for (int sign = 0; sign < 256; sign++) {
            boolean blank = sign == 32 || sign == 10;
            boolean digit = sign >= '0' && sign <= '9';
            int due = sign == ';' ? 1 : blank ? Check.fault(8, 1) : digit ? Check.fault(6, 4) : Check.fault(7, 1);
            says("holes 1" + (char) sign, due);
        }
    }

    /** Terms 1: "WORDS (small letters, each that stand together; 1 to 6)", "longer ones .. are no TOKENS". */
    private static void wordsOfSix() {
        StringBuilder all = new StringBuilder();
        for (int letters = 1; letters <= 60; letters++) {
            String line = "item " + "a".repeat(letters) + " 1 1;";
            says(line, letters <= 6 ? 1 : Check.fault(5, 1));
            says("item " + "z".repeat(letters) + " 1 1;", letters <= 6 ? 1 : Check.fault(5, 1));
            all.append(letters <= 6 ? line : "");
        }
        says(all.toString(), 6);
        says("item abcdef 1 1;order o 1 abcdefg 1;", Check.fault(26, 1));
        says("item a 1 1;order abcdefg 1 a 1;", Check.fault(17, 1));
        says("holesho 1;", Check.fault(0, 1));
    }

    /** Terms 1: "NUMBERS (digits, likewise; 1 or 2)", "longer ones .. are no TOKENS". */
    private static void numbersOfTwo() {
        WaveWall x = Check.told("item a 0 9;item b 00 09;item c 90 99;");
        int[][] due = {{0, 9}, {0, 9}, {90, 99}};
        for (int item = 0; item < 3; item++) {
            CHECK.due("PLACE of " + item, x.item(item, 0), due[item][0]);
            CHECK.due("STOCK of " + item, x.item(item, 1), due[item][1]);
        }
        for (String number : new String[] {"000", "001", "100", "999", "0000", "4294967297"}) {
            says("item a " + number + " 1;", Check.fault(7, 1));
            says("item a 1 " + number + ";", Check.fault(9, 1));
            says("holes " + number + ";", Check.fault(6, 1));
        }
        says("holes 08;", 1);
    }

    /** Terms 1: "; alone": each is a TOKEN of its own, whatever stands beside it. */
    private static void semicolonAlone() {
        says("holes 1;;", Check.fault(8, 1));
        says("holes;1;", Check.fault(5, 1));
        says("holes1;wave2 3;item a4 5;order b6a7;", 4);
        says(";", Check.fault(0, 1));
    }

    /** Terms 1: "TEXT: { LINE }": there may be none. */
    private static void noLines() {
        WaveWall x = Check.told("holes 7;wave 5 6;item a 1 1;order o 1 a 1;");
        CHECK.due("wall(0)", x.wall(0), 0);
        CHECK.counts(x, 0, 0, 4, 4, 0, 0, 0, 0, 4, 30);
        CHECK.due("wall of blanks", Check.tell(x, " \n "), 0);
        CHECK.counts(x, 0, 0, 4, 4, 0, 0, 0, 0, 4, 30);
    }

    /** Terms 1: "holes NUMBER ; (1 to 8; 4 without)", "4 a NUMBER that can't be". */
    private static void holes() {
        for (int n = 0; n <= 99; n++) {
            WaveWall x = new WaveWall();
            boolean can = n >= 1 && n <= 8;
            CHECK.due("holes " + n, Check.tell(x, "holes " + n + ";"), can ? 1 : Check.fault(6, 4));
            CHECK.due("count(2)", x.count(2), can ? n : 4);
            CHECK.due("count(3)", x.count(3), can ? n : 4);
            CHECK.due("the last hole", x.hole((can ? n : 4) - 1), -1);
            CHECK.due("none behind it", x.hole(can ? n : 4), -2);
            Check.tell(x, "wave 1 1;");
            CHECK.due("count(2) without", x.count(2), 4);
        }
    }

    /** Terms 1: "wave NUMBER NUMBER ; (ORDERS 1 to 8, UNITS 1 to 60; 4 and 30 without)". */
    private static void waves() {
        for (int n = 0; n <= 99; n++) {
            WaveWall x = new WaveWall();
            boolean can = n >= 1 && n <= 8;
            CHECK.due("wave " + n + " 7", Check.tell(x, "wave " + n + " 7;"), can ? 1 : Check.fault(5, 4));
            CHECK.due("count(8)", x.count(8), can ? n : 4);
            CHECK.due("count(9)", x.count(9), can ? 7 : 30);
            can = n >= 1 && n <= 60;
            Check.tell(x, "");
            CHECK.due("wave 7 " + n, Check.tell(x, "wave 7 " + n + ";"), can ? 1 : Check.fault(7, 4));
            CHECK.due("count(8)", x.count(8), can ? 7 : 4);
            CHECK.due("count(9)", x.count(9), can ? n : 30);
            Check.tell(x, "holes 1;");
            CHECK.due("count(8) without", x.count(8), 4);
            CHECK.due("count(9) without", x.count(9), 30);
        }
    }

    /** Terms 1: "item NAME PLACE STOCK ; (10 at most; 0 to 99 each)". */
    private static void items() {
        for (int n = 0; n <= 99; n++) {
            WaveWall x = Check.told("item a " + n + " " + (99 - n) + ";");
            CHECK.due("PLACE " + n, x.item(0, 0), n);
            CHECK.due("STOCK " + (99 - n), x.item(0, 1), 99 - n);
        }
        for (int n = 0; n <= 10; n++) {
            WaveWall x = new WaveWall();
            CHECK.due(n + " items", Check.tell(x, tenItems().substring(0, 11 * n)), n);
            CHECK.due("count(0)", x.count(0), n);
            CHECK.due("the last", x.item(n - 1, 0), n == 0 ? -1 : 1);
            CHECK.due("none behind it", x.item(n, 0), -1);
        }
    }

    /** Terms 1: "order NAME DUE ITEM NUMBER { ITEM NUMBER } ; (16 at most; 0 to 99 ..". */
    private static void orders() {
        for (int n = 0; n <= 99; n++) {
            CHECK.due("DUE " + n, Check.order(Check.told("item a 1 1;order o " + n + " a 1;"), 0, 0), n);
        }
        says("item a 1 1;order o 100 a 1;", Check.fault(19, 1));
        for (int n = 0; n <= 16; n++) {
            WaveWall x = new WaveWall();
            CHECK.due(n + " orders", Check.tell(x, sixteenOrders().substring(0, 11 + 14 * n)), 1 + n);
            CHECK.due("count(1)", x.count(1), n);
            CHECK.due("the last", Check.order(x, n - 1, 0), n == 0 ? Check.NO_SUCH_ELEMENT : 1);
            CHECK.due("none behind it", Check.order(x, n, 0), Check.NO_SUCH_ELEMENT);
        }
    }

    /** Terms 1: "6 ITEMS at most, each once, told ahead"; "ITEM NUMBER { ITEM NUMBER }": one at least. */
    private static void itemsOfOrder() {
        String names = "abcdefg";
        StringBuilder text = new StringBuilder(tenItems() + "order o 1");
        says(text + ";", Check.fault(text.length(), 1));
        for (int n = 1; n <= 6; n++) {
            text.append(' ').append(names.charAt(n - 1)).append(" 2");
            WaveWall x = new WaveWall();
            CHECK.due(n + " items", Check.tell(x, text + ";"), 11);
            CHECK.due("UNITS of all", Check.order(x, 0, 1), 2 * n);
            CHECK.due("ITEMS of it", x.alike(0, 0), n);
            for (int i = 0; i < n; i++) {
                says(text + " " + names.charAt(i) + " 2;", Check.fault(text.length() + 1, 2));
            }
        }
        says(text + " g 2;", Check.fault(text.length() + 1, 5));
        says("item a 1 1;order o 1 b 1;item b 1 1;", Check.fault(21, 3));
        says("item a 1 1;order o 1 a 1;item b 1 1;order p 1 b 1 a 1;", 4);
    }

    /** Terms 1: "1 to 9 UNITS of each". */
    private static void unitsOfItem() {
        for (int n = 0; n <= 99; n++) {
            boolean can = n >= 1 && n <= 9;
            says("item a 1 1;order o 1 a " + n + ";", can ? 2 : Check.fault(23, 4));
            says("item a 1 1;item b 1 1;order o 1 a 9 b " + n + ";", can ? 3 : Check.fault(38, 4));
        }
    }

    /** Terms 1: "ITEMS, ORDERS are numbered as told." */
    private static void numberedAsTold() {
        WaveWall x = Check.told("item z 9 1;order y 9 z 1;item a 0 2;order b 0 a 2 z 3;item m 5 3;order c 5 m 1;");
        int[] places = {9, 0, 5};
        int[][] need = {{1, 0, 0}, {3, 2, 0}, {0, 0, 1}};
        for (int i = 0; i < 3; i++) {
            CHECK.due("PLACE", x.item(i, 0), places[i]);
            CHECK.due("STOCK", x.item(i, 1), i + 1);
            CHECK.due("DUE", Check.order(x, i, 0), places[i]);
            for (int item = 0; item < 3; item++) {
                CHECK.due("units(" + i + ", " + item + ", 0)", x.units(i, item, 0), need[i][item]);
            }
        }
    }

    /** Terms 1: "A NAME is a WORD but holes, wave, item, order". */
    private static void namesButLineWords() {
        for (String word : LINE_WORDS) {
            says("item " + word + " 1 1;", Check.fault(5, 1));
            says("item a 1 1;order " + word + " 1 a 1;", Check.fault(17, 1));
            says("item a 1 1;order o 1 " + word + " 1;", Check.fault(21, 1));
            says("item a 1 1;order o 1 a 1 " + word + " 1;", Check.fault(25, 1));
            String shorter = word.substring(0, word.length() - 1);
            says("item " + word + "s 1 1;order " + shorter + " 1 " + word + "s 1;", 2);
            says(word + "s 1 1;", Check.fault(0, 1));
            says(shorter + " 1 1;", Check.fault(0, 1));
        }
    }

    /** Terms 1: "no two are alike", "2 a NAME given that is there". */
    private static void noTwoAlike() {
        says("item ab 1 1;item ab 1 1;", Check.fault(17, 2));
        says("item ab 1 1;order ab 1 ab 1;", Check.fault(18, 2));
        says("item a 1 1;order ob 1 a 1;order ob 1 a 1;", Check.fault(32, 2));
        says("item a 1 1;order ob 1 a 1;item ob 1 1;", Check.fault(31, 2));
        says(tenItems().substring(0, 99) + "item a 1 1;", Check.fault(104, 2));
        says(tenItems().substring(0, 99) + "item i 1 1;", Check.fault(104, 2));
        // one letter alone is unlike: the first, the last, how many
        says("item aaaaaa 1 1;item baaaaa 1 1;item aaaaab 1 1;item aaaaa 1 1;order aaaaac 1 aaaaab 1;", 5);
    }

    /** Terms 1: "FAULTS, the one whose place is least". */
    private static void leastPlace() {
        String[] faults = {"?", "holes 9;", "item a 1 1;item a 1 1;", "item b 1 1;order o 1 c 1;"};
        int[] places = {0, 6, 16, 21};
        int[] kinds = {1, 4, 2, 3};
        for (int i = 0; i < faults.length; i++) {
            for (String behind : faults) {
                says(faults[i] + behind, Check.fault(places[i], kinds[i]));
            }
        }
        String full = tenItems() + "item k 100 ?";
        says(full, Check.fault(110, 5));
        says("wave 9 61;", Check.fault(5, 4));
        says("item a 1 1;order a 1 b 0;", Check.fault(17, 2));
        says("item a 1 1;order o 1 b 0;", Check.fault(21, 3));
    }

    /** Terms 1: "of one place the first of this list". */
    private static void firstOfList() {
        String six = tenItems() + "order o 1 a 1 b 1 c 1 d 1 e 1 f 1 ";
        int place = six.length();
        says(six + "g 1;", Check.fault(place, 5));
        says(six + "x 1;", Check.fault(place, 3));
        says(six + "o 1;", Check.fault(place, 3));
        says(six + "c 1;", Check.fault(place, 2));
        says(six + "7 1;", Check.fault(place, 1));
        says(six + "item 1;", Check.fault(place, 1));
        says(six + "ggggggg 1;", Check.fault(place, 1));
        says(six + "G 1;", Check.fault(place, 1));
        says(six, Check.fault(place, 1));
        says("holes 100;", Check.fault(6, 1));
        says("holes 1;holess 1;", Check.fault(8, 1));
    }

    /** Terms 1: "1 .. TOKEN with which no TEXT goes on (its first byte; the end: how many bytes there are)". */
    private static void everyEnd() {
        String text = "item ab 10 2;order p 5 ab 3;";
        for (int n = 0; n <= text.length(); n++) {
            int due = Check.fault(n, 1);
            if (n == 0 || n == 13 || n == 28) {
                due = n == 28 ? 2 : n == 13 ? 1 : 0;
            } else if (n < 4) {
                due = Check.fault(0, 1);
            } else if (n > 13 && n < 18) {
                due = Check.fault(13, 1);
            } else if (n == 24) {
                due = Check.fault(23, 3);
            }
            says(text.substring(0, n), due);
            WaveWall x = new WaveWall();
            Check.feed(x, text);
            CHECK.due("wall(" + n + ") of all", x.wall(n), due);
        }
    }

    /** The same, where the end is that of a full tape. */
    private static void endOfFullTape() {
        says("holes 1" + " ".repeat(593), Check.fault(600, 1));
        says(" ".repeat(599) + "?", Check.fault(599, 1));
        says(" ".repeat(590) + "holes 9;  ", Check.fault(596, 4));
        says(" ".repeat(592) + "holes 8;", 1);
    }

    /** Terms 1: a NAME is "there" in the TEXT that is read alone. */
    private static void nameTold() {
        WaveWall x = Check.told("item a 1 1;order o 1 a 1;");
        CHECK.due("the same names again", Check.tell(x, "item o 1 1;order a 1 o 1;"), 2);
        CHECK.due("a fault", Check.tell(x, "item b 1 1;item c 1 1;?"), Check.fault(22, 1));
        CHECK.due("its names are not there", Check.tell(x, "item b 1 1;order o 1 c 1;"), Check.fault(21, 3));
        CHECK.due("and can be given", Check.tell(x, "item c 1 1;item b 1 1;"), 2);
    }

    /** Terms 1: "2 .. the WORD holes, wave of a second such LINE". */
    private static void secondLine() {
        says("holes 1;wave 1 1;", 2);
        says("holes 1;holes 1;", Check.fault(8, 2));
        says("holes 1;holes", Check.fault(8, 2));
        says("wave 1 1;wave 1 1;", Check.fault(9, 2));
        says("wave 1 1;holes 1;item a 1 1;wave", Check.fault(28, 2));
        says("holes 1;wave 1 1;item a 1 1;holes 9;", Check.fault(28, 2));
        WaveWall x = Check.told("holes 1;wave 1 1;");
        CHECK.due("the next text has its own", Check.tell(x, "holes 2;wave 2 2;"), 2);
    }

    /** Terms 1: "3 a NAME that is no ITEM told ahead". */
    private static void notToldAhead() {
        says("order o 1 a 1;", Check.fault(10, 3));
        says("order o 1 o 1;", Check.fault(10, 3));
        says("item a 1 1;order o 1 a 1;order p 1 o 1;", Check.fault(35, 3));
        says("item a 1 1;order o 1 a 1 aa 1;", Check.fault(25, 3));
        says("item ab 1 1;order o 1 a 1;", Check.fault(22, 3));
        says("item a 1 1;order o 1 b 1;item b 1 1;", Check.fault(21, 3));
    }

    /** Terms 1: "5 the WORD item, order of one too many; an ITEM behind six". */
    private static void oneTooMany() {
        says(tenItems() + "item", Check.fault(110, 5));
        says(tenItems() + "item a 1 1;", Check.fault(110, 5));
        says(tenItems() + "items k 1 1;", Check.fault(110, 1));
        says(tenItems() + "holes 1;order o 1 j 1;wave 1 1;item k 1 1;", Check.fault(141, 5));
        says(sixteenOrders() + "order", Check.fault(235, 5));
        says(sixteenOrders() + "item b 1 1;order o 1 b 1;", Check.fault(246, 5));
        says(sixteenOrders() + "item b 1 1;holes 2;", 19);
        String six = tenItems() + "order o 1 a 1 b 1 c 1 d 1 e 1 f 1";
        says(six + " g", Check.fault(six.length() + 1, 5));
        says(six + ";order p 1 j 1 i 1 h 1 g 1 f 1 e 1;", 12);
    }

    /** Promise 3: "The first n bytes of THE TAPE .. are the TEXT from now on: how many LINES". */
    private static void firstBytes() {
        String text = "holes 7;wave 5 6;item a 1 1;????";
        int[] ends = {0, 8, 17, 28};
        for (int lines = 0; lines < ends.length; lines++) {
            WaveWall x = new WaveWall();
            Check.feed(x, text);
            CHECK.due("wall(" + ends[lines] + ")", x.wall(ends[lines]), lines);
            CHECK.counts(x, lines / 3, 0, lines > 0 ? 7 : 4, lines > 0 ? 7 : 4, 0, 0, 0, 0, lines > 1 ? 5 : 4,
                    lines > 1 ? 6 : 30);
        }
    }

    /** Promise 3: "are the TEXT from now on": nothing of those told ahead is left. */
    private static void fromNowOn() {
        WaveWall x = Check.told("holes 7;wave 7 7;item a 9 9;item b 9 9;order p 9 a 9 b 9;order q 9 a 9 b 9;");
        String less = "item a 1 1;item b 2 2;order p 3 a 4;order q 4 b 5;";
        for (int round = 0; round < 3; round++) {
            CHECK.due("wall of less", Check.tell(x, less), 4);
            CHECK.counts(x, 2, 2, 4, 4, 2, 0, 0, 0, 4, 30);
            CHECK.due("units(0, 1, 0)", x.units(0, 1, 0), 0);
            CHECK.due("units(1, 0, 0)", x.units(1, 0, 0), 0);
            CHECK.due("order(0, 1)", Check.order(x, 0, 1), 4);
            CHECK.due("order(1, 1)", Check.order(x, 1, 1), 5);
            CHECK.due("alike(0, 1)", x.alike(0, 1), 0);
            CHECK.picks(x, new int[][] {{0, 1}, {1, 2}});
            CHECK.due("walk()", x.walk(), 4);
        }
    }

    /** Promise 3: "(it is empty then)": all of it, with a TEXT, an empty one and a FAULT. */
    private static void tapeIsEmpty() {
        for (int n : new int[] {0, 8, 3}) {
            WaveWall x = new WaveWall();
            Check.feed(x, "holes 7;item a 1 1;  ");
            x.wall(n);
            CHECK.due("wall(" + n + "): count(7)", x.count(7), 0);
            CHECK.due("wall(1) of none", x.wall(1), -1);
            CHECK.due("what comes then is first", Check.tell(x, "wave 3 4;"), 1);
        }
    }

    /** Promise 3: "NONE: it has not so many, n is below 0 (THE TAPE stays)." */
    private static void tapeStays() {
        WaveWall x = Check.told("holes 2;item a 1 3;order o 1 a 2;");
        x.release();
        x.keep(1, false);
        x.step(1);
        String was = Check.seen(x);
        CHECK.due("wall(1) of an empty tape", x.wall(1), -1);
        Check.feed(x, "holes 7;            ");
        for (int n : new int[] {-1, -2, -20, MIN_VALUE, 21, 22, 600, 601, MAX_VALUE}) {
            CHECK.due("wall(" + n + ")", x.wall(n), -1);
            CHECK.due("count(7)", x.count(7), 20);
            CHECK.due("acts", x.count(6), 2);
            CHECK.same("all stays", Check.seen(x), was);
        }
        CHECK.due("kept", x.keep(1, true), true);
        CHECK.due("wall(20)", x.wall(20), 1);
        CHECK.due("count(2)", x.count(2), 7);
    }

    /** Promise 3: "all ORDERS WAIT, BELT and HOLES are empty, nothing can be UNDONE, nothing is KEPT". */
    private static void allIsNew() {
        // p is whole, q has the hole, r is aside, s is on the belt, t is by, u waits; some is late
        String text = "holes 1;wave 6 9;item a 1 5;item b 2 0;item c 9 9;order t 0 a 1 b 1;order p 1 a 1;"
                + "order q 2 a 1 b 1;order r 3 a 1 b 1;order s 4 c 2;order u 5 a 9;";
        WaveWall x = Check.told(text);
        String first = Check.seen(x);
        for (int round = 0; round < 3; round++) {
            CHECK.due("release()", x.release(), 5);
            x.step(1);
            x.keep(0, false);
            CHECK.due("by(0)", x.by(0), 0);
            x.step(4);
            x.keep(1, false);
            CHECK.how(x, 3, 4, 2, 1, 1, 0);
            CHECK.aside(x, new int[][] {{3, 0}, {4, 2}});
            CHECK.belt(x, new int[][] {{4, 2}});
            CHECK.counts(x, 3, 6, 1, 0, 1, 3, 4, 0, 6, 9);
            CHECK.due("the same text", Check.tell(x, text), 11);
            CHECK.counts(x, 3, 6, 1, 1, 6, 0, 0, 0, 6, 9);
            CHECK.how(x, 0, 0, 0, 0, 0, 0);
            CHECK.belt(x);
            CHECK.aside(x);
            CHECK.holes(x, -1);
            CHECK.wholes(x);
            CHECK.due("undo()", x.undo(), -1);
            CHECK.due("keep(0, true)", x.keep(0, true), false);
            CHECK.due("keep(1, true)", x.keep(1, true), false);
            CHECK.same("all as at first", Check.seen(x), first);
        }
    }

    /** Promise 3: "-2 less (8 * place + kind): a FAULT (all else stays)." */
    private static void allElseStays() {
        String[] faults = {"?", "holes 7;wave 7 7;item z 9 9;order y 9 z 9;holes 7;", "item z 9 9;order y 9 x 1;",
            "holes 7;wave 7 61;", tenItems() + "item", "wave 7 7;holes 7"};
        int[] due = {Check.fault(0, 1), Check.fault(42, 2), Check.fault(21, 3), Check.fault(15, 4), Check.fault(110, 5),
            Check.fault(16, 1)};
        WaveWall x = Check.told("holes 2;wave 2 9;item a 1 3;order o 1 a 2;order p 2 a 2;");
        String first = Check.seen(x);
        x.keep(0, false);
        x.release();
        x.step(1);
        String was = Check.seen(x);
        for (int i = 0; i < faults.length; i++) {
            CHECK.due("wall of " + faults[i], Check.tell(x, faults[i]), due[i]);
            CHECK.counts(x, 1, 2, 2, 1, 0, 1, 2, 0, 2, 9);
            CHECK.same("all stays", Check.seen(x), was);
            CHECK.due("PLACE", x.item(0, 0), 1);
            CHECK.due("DUE", Check.order(x, 1, 0), 2);
            CHECK.due("UNITS", x.units(1, 0, 0), 2);
        }
        CHECK.due("undo()", x.undo(), 1);
        CHECK.due("undo()", x.undo(), 0);
        CHECK.same("all as at first", Check.seen(x), first);
        x.release();
        Check.tell(x, "?");
        CHECK.due("keep(0, true)", x.keep(0, true), true);
        CHECK.same("all as at first", Check.seen(x), first);
    }

    /** "item a 1 1;" to "item j 1 1;", 110 bytes. */
    private static String tenItems() {
        StringBuilder text = new StringBuilder();
        for (char name = 'a'; name <= 'j'; name++) {
            text.append("item ").append(name).append(" 1 1;");
        }
        return text.toString();
    }

    /** An item a and orders with 14 bytes each, 235 bytes. */
    private static String sixteenOrders() {
        StringBuilder text = new StringBuilder("item a 1 1;");
        for (int i = 0; i < 16; i++) {
            text.append("order ").append((char) ('c' + i)).append(" 1 a 1;");
        }
        return text.toString();
    }

    private static void says(String text, int answer) {
        CHECK.due("wall of '" + text + "'", Check.tell(new WaveWall(), text), answer);
    }
}
