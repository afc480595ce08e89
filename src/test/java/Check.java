import java.util.NoSuchElementException;

/** Counts answers that are not as due; a test ends with end(). */
final class Check {
    /** What stands for a NoSuchElementException among answers. */
    static final long NO_SUCH_ELEMENT = Long.MIN_VALUE;

    private final String test;
    private int wrong = 0;
    private int seen = 0;

    Check(String test) {
        this.test = test;
    }

    void due(String call, long got, long want) {
        seen++;
        if (got != want) {
            wrong++;
            System.out.println(test + ": " + call + " answered " + got + ", due is " + want);
        }
    }

    void due(String call, boolean got, boolean want) {
        due(call, got ? 1 : 0, want ? 1 : 0);
    }

    int wrong() {
        return wrong;
    }

    void end() {
        System.out.println(test + ": " + seen + " answers, " + wrong + " not as due");
        if (wrong != 0) {
            System.exit(1);
        }
    }

    static long order(WaveWall wall, int order, int what) {
        try {
            return wall.order(order, what);
        } catch (NoSuchElementException none) {
            return NO_SUCH_ELEMENT;
        }
    }

    /** Feeds a text (padded with zeros) and tells the wall its length. */
    static int tell(WaveWall wall, String text) {
        feed(wall, text);
        return wall.wall(text.length());
    }

    static int feed(WaveWall wall, String text) {
        int answer = 0;
        for (int from = 0; from < text.length(); from += 20) {
            answer = wall.feed(number(text, from), number(text, from + 4), number(text, from + 8),
                    number(text, from + 12), number(text, from + 16));
        }
        return answer;
    }

    private static int number(String text, int from) {
        int number = 0;
        for (int i = from; i < from + 4; i++) {
            number = number << 8 | (i < text.length() ? text.charAt(i) & 255 : 0);
        }
        return number;
    }

    static WaveWall told(String text) {
        WaveWall wall = new WaveWall();
        int answer = tell(wall, text);
        if (answer < 0) {
            throw new IllegalArgumentException("fault " + (-2 - answer) + " in " + text);
        }
        return wall;
    }
}
