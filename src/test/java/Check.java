import java.util.NoSuchElementException;

/** Counts answers that are not as due; a test ends with end(). */
final class Check {
    /** What stands for a NoSuchElementException among answers. */
    static final long NO_SUCH_ELEMENT = Long.MIN_VALUE;

    private final String test;
    private int wrong = 0;
    private int seen = 0;

    Check(String test) {
        this.test = test;
    }

    void due(String call, long got, long want) {
        seen++;
        if (got != want) {
            wrong++;
            System.out.println(test + ": " + call + " answered " + got + ", due is " + want);
        }
    }

    void due(String call, boolean got, boolean want) {
        due(call, got ? 1 : 0, want ? 1 : 0);
    }

    int wrong() {
        return wrong;
    }

    void end() {
        System.out.println(test + ": " + seen + " answers, " + wrong + " not as due");
        if (wrong != 0) {
            System.exit(1);
        }
    }

    static long order(WaveWall wall, int order, int what) {
        try {
            return wall.order(order, what);
        } catch (NoSuchElementException none) {
            return NO_SUCH_ELEMENT;
        }
    }

    /** Feeds a text (padded with zeros) and tells the wall its length. */
    static int tell(WaveWall wall, String text) {
        feed(wall, text);
        return wall.wall(text.length());
    }

    static int feed(WaveWall wall, String text) {
        int answer = 0;
        for (int from = 0; from < text.length(); from += 20) {
            answer = wall.feed(number(text, from), number(text, from + 4), number(text, from + 8),
                    number(text, from + 12), number(text, from + 16));
        }
        return answer;
    }

    private static int number(String text, int from) {
        int number = 0;
        for (int i = from; i < from + 4; i++) {
            number = number << 8 | (i < text.length() ? text.charAt(i) & 255 : 0);
        }
        return number;
    }

    /** Lines of orders oa, ob and so on, all with the same units, with dues from first on by step. */
    static String orders(int count, int first, int step, String units) {
        StringBuilder text = new StringBuilder();
        for (int i = 0; i < count; i++) {
            text.append("order o").append((char) ('a' + i)).append(' ').append(first + i * step);
            text.append(units).append(';');
        }
        return text.toString();
    }

    /** What wall answers for a fault. */
    static int fault(int place, int kind) {
        return -2 - (8 * place + kind);
    }

    static WaveWall told(String text) {
        WaveWall wall = new WaveWall();
        int answer = tell(wall, text);
        if (answer < 0) {
            throw new IllegalArgumentException("fault " + (-2 - answer) + " in " + text);
        }
        return wall;
    }

    // ---- rows that are looked at whole, and one behind their end

    void belt(WaveWall x, int[]... due) {
        due("belt(-1, 0)", x.belt(-1, 0), due.length);
        for (int i = 0; i < due.length; i++) {
            due("belt(" + i + ", 0)", x.belt(i, 0), due[i][0]);
            due("belt(" + i + ", 1)", x.belt(i, 1), due[i][1]);
        }
        due("belt(" + due.length + ", 0)", x.belt(due.length, 0), -2);
    }

    void aside(WaveWall x, int[]... due) {
        due("aside(-1, 0)", x.aside(-1, 0), due.length);
        for (int i = 0; i < due.length; i++) {
            due("aside(" + i + ", 0)", x.aside(i, 0), due[i][0]);
            due("aside(" + i + ", 1)", x.aside(i, 1), due[i][1]);
        }
        due("aside(" + due.length + ", 0)", x.aside(due.length, 0), -2);
    }

    void picks(WaveWall x, int[]... due) {
        due("pick(-1, 0)", x.pick(-1, 0), due.length);
        for (int i = 0; i < due.length; i++) {
            due("pick(" + i + ", 0)", x.pick(i, 0), due[i][0]);
            due("pick(" + i + ", 1)", x.pick(i, 1), due[i][1]);
        }
        due("pick(" + due.length + ", 0)", x.pick(due.length, 0), -2);
    }

    void holes(WaveWall x, int... due) {
        for (int hole = 0; hole < due.length; hole++) {
            due("hole(" + hole + ")", x.hole(hole), due[hole]);
            if (due[hole] >= 0) {
                due("order(" + due[hole] + ", 5)", order(x, due[hole], 5), hole);
            }
        }
        due("hole(" + due.length + ")", x.hole(due.length), -2);
    }

    void how(WaveWall x, int... due) {
        for (int order = 0; order < due.length; order++) {
            due("order(" + order + ", 4)", order(x, order, 4), due[order]);
        }
        due("order(" + due.length + ", 4)", order(x, due.length, 4), NO_SUCH_ELEMENT);
    }

    void wholes(WaveWall x, int... due) {
        due("whole(-1)", x.whole(-1), due.length);
        for (int k = 0; k < due.length; k++) {
            due("whole(" + k + ")", x.whole(k), due[k]);
        }
        due("whole(" + due.length + ")", x.whole(due.length), -2);
    }

    void counts(WaveWall x, int... due) {
        for (int what = 0; what < due.length; what++) {
            due("count(" + what + ")", x.count(what), due[what]);
        }
    }

    void same(String when, String got, String want) {
        due(when + ": " + got + ", not " + want, got.equals(want), true);
    }

    /** What can be seen of all but the tape, the text and what can be undone or is kept. */
    static String seen(WaveWall x) {
        StringBuilder all = new StringBuilder();
        for (int item = 0; item < x.count(0); item++) {
            all.append(x.item(item, 1)).append(' ').append(x.item(item, 2)).append(", ");
        }
        for (int order = 0; order < x.count(1); order++) {
            for (int what = 2; what < 6; what++) {
                all.append(x.order(order, what)).append(' ');
            }
            for (int item = 0; item < x.count(0); item++) {
                all.append(x.units(order, item, 1)).append('/').append(x.units(order, item, 2)).append(' ');
            }
        }
        for (int i = -1; i < x.belt(-1, 0); i++) {
            all.append(" b").append(x.belt(i, 0)).append(x.belt(i, 1));
        }
        for (int i = -1; i < x.aside(-1, 0); i++) {
            all.append(" a").append(x.aside(i, 0)).append(x.aside(i, 1));
        }
        for (int hole = 0; hole < x.count(2); hole++) {
            all.append(" h").append(x.hole(hole));
        }
        for (int k = -1; k < x.whole(-1); k++) {
            all.append(" w").append(x.whole(k));
        }
        return all.append(" next ").append(x.wave()).toString();
    }
}
