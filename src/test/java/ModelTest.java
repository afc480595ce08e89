import java.util.NoSuchElementException;
import java.util.Random;

/** Long runs of calls on WaveWall and on Model: every answer must be the same. */
public final class ModelTest {
    private static final Check CHECK = new Check("ModelTest");
    private static final int[] EDGES = {Integer.MIN_VALUE, -100, -3, -2, -1, 16, 17, 61, 100, 201, 601,
        Integer.MAX_VALUE};
    private static final String[] SCRAPS = {"item", "order", "holes", "wave", ";", " ", "\n", "a", "o", "zz", "0", "1",
        "9", "10", "61", "100", "?", "A", "abcdefg", "99", "item a 1 1;", "holes 2;", "wave 2 9;", "order o 1 a 1;"};

    private final Random random;
    private final WaveWall wall = new WaveWall();
    private final Model model = new Model();
    private final StringBuilder run = new StringBuilder();

    private ModelTest(long seed) {
        random = new Random(seed);
    }

    public static void main(String[] args) {
        int runs = args.length > 0 ? Integer.parseInt(args[0]) : 400;
        for (int seed = 0; seed < runs && CHECK.wrong() == 0; seed++) {
            new ModelTest(seed).play();
        }
        CHECK.end();
    }

    private void play() {
        for (int text = 0; text < 3 && CHECK.wrong() == 0; text++) {
            tell(random.nextInt(4) == 0 ? spoilt(text()) : text());
            for (int i = 0; i < 120 && CHECK.wrong() == 0; i++) {
                call();
            }
        }
        if (CHECK.wrong() != 0) {
            System.out.println(run);
        }
    }

    private void same(String call, long got, long want) {
        run.append(call).append(" = ").append(got).append('\n');
        CHECK.due(call, got, want);
    }

    // ---- texts

    private String text() {
        StringBuilder text = new StringBuilder();
        if (random.nextInt(5) > 0) {
            text.append("holes ").append(1 + random.nextInt(random.nextBoolean() ? 3 : 8)).append(";");
        }
        if (random.nextInt(4) > 0) {
            text.append("wave ").append(1 + random.nextInt(8)).append(' ').append(1 + random.nextInt(60)).append(";");
        }
        int items = 1 + random.nextInt(10);
        int mostStock = random.nextBoolean() ? 100 : 12;
        for (int i = 0; i < items; i++) {
            text.append("item ").append((char) ('a' + i)).append(' ').append(random.nextInt(random.nextBoolean() ? 8 : 100))
                    .append(' ').append(random.nextInt(mostStock)).append(";");
        }
        int orders = random.nextInt(17);
        int mostItems = 1 + random.nextInt(6);
        int mostUnits = 1 + random.nextInt(9);
        for (int i = 0; i < orders; i++) {
            String order = order(i, items, 1 + random.nextInt(mostItems), mostUnits);
            if (text.length() + order.length() <= 600) {
                text.append(order);
            }
        }
        return text.toString();
    }

    private String order(int number, int items, int mostItems, int mostUnits) {
        StringBuilder order = new StringBuilder("order o");
        order.append((char) ('a' + number)).append(' ').append(random.nextInt(random.nextBoolean() ? 5 : 100));
        int first = random.nextInt(items);
        int step = 1 + random.nextInt(items);
        int told = 0;
        for (int i = 0; i < items && told < mostItems; i++) {
            String item = " " + (char) ('a' + (first + i * step) % items) + " ";
            if (order.indexOf(item) < 0) {
                order.append(item).append(1 + random.nextInt(mostUnits));
                told++;
            }
        }
        return order.append(";").toString();
    }

    private String spoilt(String text) {
        if (random.nextInt(4) == 0) {
            return text.substring(0, random.nextInt(text.length() + 1));
        }
        int from = random.nextInt(text.length() + 1);
        int to = Math.min(text.length(), from + random.nextInt(4));
        String spoilt = text.substring(0, from) + SCRAPS[random.nextInt(SCRAPS.length)] + text.substring(to);
        return spoilt.length() > 600 ? spoilt.substring(0, 600) : spoilt;
    }

    private void tell(String text) {
        if (model.count(7) > 0) {
            same("wall(0)", wall.wall(0), model.wall(0));
        }
        for (int from = 0; from < text.length(); from += 20) {
            int[] n = new int[5];
            for (int i = 0; i < 20; i++) {
                int sign = from + i < text.length() ? text.charAt(from + i) : 0;
                n[i / 4] = n[i / 4] << 8 | sign;
            }
            same("feed", wall.feed(n[0], n[1], n[2], n[3], n[4]), model.feed(n));
        }
        run.append(text).append('\n');
        same("wall(" + text.length() + ")", wall.wall(text.length()), model.wall(text.length()));
    }

    // ---- calls

    private int some(int below) {
        return random.nextInt(8) == 0 ? EDGES[random.nextInt(EDGES.length)] : random.nextInt(below + 1) - 1;
    }

    private void call() {
        int which = random.nextInt(20);
        if (which < 9) {
            act(which);
        } else if (which == 9) {
            everything();
        } else {
            look(random.nextInt(17));
        }
    }

    private void act(int which) {
        int a = some(16);
        int n = which == 3 ? some(200) : some(6);
        switch (which) {
            case 0 -> same("release()", wall.release(), model.release());
            case 1, 2, 3 -> same("step(" + n + ")", wall.step(n), model.step(n));
            case 4, 5 -> same("stock(" + a % 10 + ", " + n + ")", wall.stock(a % 10, n), model.stock(a % 10, n));
            case 6 -> same("by(" + a + ")", wall.by(a), model.by(a));
            case 7 -> same("undo()", wall.undo(), model.undo());
            default -> keepOrFeed(random.nextInt(10));
        }
    }

    private void keepOrFeed(int which) {
        int k = some(3);
        switch (which) {
            case 0 -> same("feed", wall.feed(1, 2, 3, 4, 5), model.feed(1, 2, 3, 4, 5));
            case 1 -> same("wall(-1)", wall.wall(-1), model.wall(-1));
            case 2, 3 -> same("keep(" + k + ", true)", bit(wall.keep(k, true)), bit(model.keep(k, true)));
            default -> same("keep(" + k + ", false)", bit(wall.keep(k, false)), bit(model.keep(k, false)));
        }
    }

    private static int bit(boolean answer) {
        return answer ? 1 : 0;
    }

    private void look(int which) {
        int a = some(16);
        int b = some(10);
        int w = some(6);
        switch (which) {
            case 0 -> same("item(" + b + ", " + w + ")", wall.item(b, w), model.item(b, w));
            case 1 -> same("order(" + a + ", " + w + ")", Check.order(wall, a, w), orderOfModel(a, w));
            case 2 -> same("units(" + a + ", " + b + ", " + w + ")", wall.units(a, b, w), model.units(a, b, w));
            case 3 -> same("alike(" + a + ", " + b + ")", wall.alike(a, b), model.alike(a, b));
            case 4 -> same("pick(" + b + ", " + w + ")", wall.pick(b, w), model.pick(b, w));
            case 5 -> costs();
            case 6 -> same("belt(" + a + ", " + w + ")", wall.belt(a, w), model.belt(a, w));
            case 7 -> same("aside(" + a + ", " + w + ")", wall.aside(a, w), model.aside(a, w));
            case 8 -> same("hole(" + b + ")", wall.hole(b), model.hole(b));
            case 9 -> same("whole(" + a + ")", wall.whole(a), model.whole(a));
            case 10 -> same("stuck()", wall.stuck(), model.stuck());
            case 11 -> same("best(" + w + ")", wall.best(w), model.best(w));
            case 12 -> same("sizes(" + b + ", " + w + ")", wall.sizes(b, w), model.sizes(b, w));
            case 13 -> same("bestSize()", wall.bestSize(), model.bestSize());
            case 14 -> same("wouldBe()", wall.wouldBe(), model.wouldBe());
            case 15 -> same("count(" + b + ")", wall.count(b), model.count(b));
            default -> wave();
        }
    }

    private void wave() {
        same("wave()", wall.wave(), model.wave());
        same("walk()", wall.walk(), model.walk());
        same("needs()", wall.needs(), model.needs());
    }

    private void costs() {
        int a = random.nextInt() >> random.nextInt(32);
        int b = random.nextInt() >> random.nextInt(32);
        same("cost(" + a + ", " + b + ")", wall.cost(a, b), model.cost(a, b));
    }

    private long orderOfModel(int order, int what) {
        try {
            return model.order(order, what);
        } catch (NoSuchElementException none) {
            return Check.NO_SUCH_ELEMENT;
        }
    }

    /** All that can be seen. */
    private void everything() {
        for (int what = -1; what <= 10; what++) {
            same("count(" + what + ")", wall.count(what), model.count(what));
        }
        for (int order = -1; order <= 16; order++) {
            for (int what = -1; what <= 6; what++) {
                same("order(" + order + ", " + what + ")", Check.order(wall, order, what), orderOfModel(order, what));
            }
            for (int item = 0; item < 10; item++) {
                for (int what = 0; what < 3; what++) {
                    same("units(" + order + ", " + item + ", " + what + ")", wall.units(order, item, what),
                            model.units(order, item, what));
                }
            }
            same("whole(" + order + ")", wall.whole(order), model.whole(order));
        }
        for (int item = -1; item <= 10; item++) {
            for (int what = -1; what <= 3; what++) {
                same("item(" + item + ", " + what + ")", wall.item(item, what), model.item(item, what));
                same("pick(" + item + ", " + what + ")", wall.pick(item, what), model.pick(item, what));
            }
        }
        for (int i = -2; i <= model.belt(-1, 0); i++) {
            same("belt(" + i + ", 0)", wall.belt(i, 0), model.belt(i, 0));
            same("belt(" + i + ", 1)", wall.belt(i, 1), model.belt(i, 1));
        }
        for (int i = -2; i <= model.aside(-1, 0); i++) {
            same("aside(" + i + ", 0)", wall.aside(i, 0), model.aside(i, 0));
            same("aside(" + i + ", 1)", wall.aside(i, 1), model.aside(i, 1));
        }
        for (int hole = -1; hole <= 8; hole++) {
            same("hole(" + hole + ")", wall.hole(hole), model.hole(hole));
        }
        for (int what = -1; what <= 7; what++) {
            same("best(" + what + ")", wall.best(what), model.best(what));
        }
        for (int size = 0; size <= 9; size++) {
            same("sizes(" + size + ", 0)", wall.sizes(size, 0), model.sizes(size, 0));
            same("sizes(" + size + ", 1)", wall.sizes(size, 1), model.sizes(size, 1));
        }
        same("stuck()", wall.stuck(), model.stuck());
        wave();
    }
}
