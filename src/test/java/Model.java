import java.util.ArrayList;
import java.util.HashMap;
import java.util.LinkedHashMap;
import java.util.List;
import java.util.Map;
import java.util.NoSuchElementException;
import java.util.TreeMap;

/**
 * The document once more, written as slowly and plainly as can be with the
 * library's collections, unit by unit and permutation by permutation. It
 * shares no code with WaveWall, so that both must go wrong alike to agree.
 */
final class Model {
    static final class Fault extends Exception {
        private static final long serialVersionUID = 1L;
        final int place;
        final int kind;

        Fault(int place, int kind) {
            this.place = place;
            this.kind = kind;
        }
    }

    record Token(String says, int place) { }

    record Unit(int order, int item) { }

    record Pick(int item, int units) { }

    record Item(String name, int place, int stock) { }

    record Order(String name, int due, Map<Integer, Integer> need) {
        int units() {
            return sum(need);
        }
    }

    /** What the text tells. */
    static final class Told {
        int lines = 0;
        int holes = 4;
        int waveOrders = 4;
        int waveUnits = 30;
        final List<Item> items = new ArrayList<>();
        final List<Order> orders = new ArrayList<>();

        int itemNamed(String name) {
            for (int i = 0; i < items.size(); i++) {
                if (items.get(i).name.equals(name)) {
                    return i;
                }
            }
            return -1;
        }

        boolean hasName(String name) {
            return itemNamed(name) >= 0 || orders.stream().anyMatch(o -> o.name.equals(name));
        }
    }

    /** What acts change. */
    static final class State {
        final List<Integer> stock = new ArrayList<>();
        final List<Integer> how = new ArrayList<>();
        final List<Integer> holes = new ArrayList<>();
        final Map<Unit, Integer> has = new HashMap<>();
        final Map<Unit, Integer> late = new HashMap<>();
        final List<Unit> belt = new ArrayList<>();
        final List<Unit> aside = new ArrayList<>();
        final List<Integer> whole = new ArrayList<>();

        State copy() {
            State to = new State();
            to.stock.addAll(stock);
            to.how.addAll(how);
            to.holes.addAll(holes);
            to.has.putAll(has);
            to.late.putAll(late);
            to.belt.addAll(belt);
            to.aside.addAll(aside);
            to.whole.addAll(whole);
            return to;
        }
    }

    private final List<Integer> tape = new ArrayList<>();
    private Told told = new Told();
    private State now = fresh(told);
    private final List<State> past = new ArrayList<>();
    private final Map<Integer, State> kept = new HashMap<>();

    private static int sum(Map<?, Integer> numbers) {
        int sum = 0;
        for (int number : numbers.values()) {
            sum += number;
        }
        return sum;
    }

    private static State fresh(Told told) {
        State state = new State();
        for (Item item : told.items) {
            state.stock.add(item.stock);
        }
        for (int i = 0; i < told.orders.size(); i++) {
            state.how.add(0);
        }
        for (int i = 0; i < told.holes; i++) {
            state.holes.add(-1);
        }
        return state;
    }

    // ---- the text

    int feed(int... numbers) {
        if (tape.size() + 20 > 600) {
            return -1;
        }
        for (int number : numbers) {
            tape.add(number >>> 24);
            tape.add(number >>> 16 & 255);
            tape.add(number >>> 8 & 255);
            tape.add(number & 255);
        }
        return tape.size();
    }

    int wall(int n) {
        if (n < 0 || n > tape.size()) {
            return -1;
        }
        StringBuilder text = new StringBuilder();
        for (int i = 0; i < n; i++) {
            text.append((char) (int) tape.get(i));
        }
        tape.clear();
        try {
            told = parse(tokens(text.toString()));
        } catch (Fault fault) {
            return -2 - (8 * fault.place + fault.kind);
        }
        now = fresh(told);
        past.clear();
        kept.clear();
        return told.lines;
    }

    /** Up to the first byte that begins none, which is told as a token "?"; the end as "". */
    private static List<Token> tokens(String text) {
        List<Token> tokens = new ArrayList<>();
        int at = 0;
        while (at < text.length()) {
            String rest = text.substring(at);
            String run = rest.replaceFirst("(?s)^([a-z]+|[0-9]+|[; \n]).*$", "$1");
            if (run.equals(" ") || run.equals("\n")) {
                at++;
            } else if (run.matches("[a-z]{1,6}|[0-9]{1,2}|;")) {
                tokens.add(new Token(run, at));
                at += run.length();
            } else {
                tokens.add(new Token("?", at));
                return tokens;
            }
        }
        tokens.add(new Token("", text.length()));
        return tokens;
    }

    private static Told parse(List<Token> tokens) throws Fault {
        Told told = new Told();
        boolean holesTold = false;
        boolean waveTold = false;
        int at = 0;
        while (!tokens.get(at).says.isEmpty()) {
            Token head = tokens.get(at++);
            switch (head.says) {
                case "holes" -> {
                    refuse(holesTold, head, 2);
                    holesTold = true;
                    told.holes = number(tokens.get(at++), 1, 8);
                }
                case "wave" -> {
                    refuse(waveTold, head, 2);
                    waveTold = true;
                    told.waveOrders = number(tokens.get(at++), 1, 8);
                    told.waveUnits = number(tokens.get(at++), 1, 60);
                }
                case "item" -> {
                    refuse(told.items.size() == 10, head, 5);
                    String name = newName(tokens.get(at++), told);
                    int place = number(tokens.get(at++), 0, 99);
                    told.items.add(new Item(name, place, number(tokens.get(at++), 0, 99)));
                }
                case "order" -> {
                    refuse(told.orders.size() == 16, head, 5);
                    String name = newName(tokens.get(at++), told);
                    int due = number(tokens.get(at++), 0, 99);
                    Map<Integer, Integer> need = new LinkedHashMap<>();
                    do {
                        Token item = tokens.get(at++);
                        name(item);
                        int which = told.itemNamed(item.says);
                        refuse(which >= 0 && need.containsKey(which), item, 2);
                        refuse(which < 0, item, 3);
                        refuse(need.size() == 6, item, 5);
                        need.put(which, number(tokens.get(at++), 1, 9));
                    } while (!tokens.get(at).says.equals(";"));
                    told.orders.add(new Order(name, due, need));
                }
                default -> throw new Fault(head.place, 1);
            }
            refuse(!tokens.get(at).says.equals(";"), tokens.get(at), 1);
            at++;
            told.lines++;
        }
        return told;
    }

    private static void refuse(boolean wrong, Token token, int kind) throws Fault {
        if (wrong) {
            throw new Fault(token.place, kind);
        }
    }

    private static int number(Token token, int least, int most) throws Fault {
        refuse(!token.says.matches("[0-9]+"), token, 1);
        int number = Integer.parseInt(token.says);
        refuse(number < least || number > most, token, 4);
        return number;
    }

    private static void name(Token token) throws Fault {
        refuse(!token.says.matches("[a-z]+") || List.of("holes", "wave", "item", "order").contains(token.says),
                token, 1);
    }

    private static String newName(Token token, Told told) throws Fault {
        name(token);
        refuse(told.hasName(token.says), token, 2);
        return token.says;
    }

    // ---- what there is

    private boolean isItem(int item) {
        return item >= 0 && item < told.items.size();
    }

    private boolean isOrder(int order) {
        return order >= 0 && order < told.orders.size();
    }

    private static int of(Map<Unit, Integer> counts, Integer order, Integer item) {
        int sum = 0;
        for (Map.Entry<Unit, Integer> one : counts.entrySet()) {
            if ((order == null || one.getKey().order == order) && (item == null || one.getKey().item == item)) {
                sum += one.getValue();
            }
        }
        return sum;
    }

    int item(int item, int what) {
        if (!isItem(item) || what < 0 || what > 2) {
            return -1;
        }
        return what == 0 ? told.items.get(item).place : what == 1 ? now.stock.get(item) : of(now.late, null, item);
    }

    int order(int order, int what) {
        if (!isOrder(order) || what < 0 || what > 5) {
            throw new NoSuchElementException();
        }
        return switch (what) {
            case 0 -> told.orders.get(order).due;
            case 1 -> told.orders.get(order).units();
            case 2 -> of(now.has, order, null);
            case 3 -> of(now.late, order, null);
            case 4 -> now.how.get(order);
            default -> now.holes.indexOf(order);
        };
    }

    int units(int order, int item, int what) {
        if (!isOrder(order) || !isItem(item) || what < 0 || what > 2) {
            return -1;
        }
        return what == 0 ? told.orders.get(order).need.getOrDefault(item, 0)
                : of(what == 1 ? now.has : now.late, order, item);
    }

    int alike(int order, int other) {
        if (!isOrder(order) || !isOrder(other)) {
            return -1;
        }
        List<Integer> both = new ArrayList<>(told.orders.get(order).need.keySet());
        both.retainAll(told.orders.get(other).need.keySet());
        return both.size();
    }

    // ---- the next wave

    /** The orders, the earlier one first. */
    private List<Integer> byDue(List<Integer> orders) {
        List<Integer> sorted = new ArrayList<>(orders);
        sorted.sort((a, b) -> told.orders.get(a).due != told.orders.get(b).due
                ? told.orders.get(a).due - told.orders.get(b).due : a - b);
        return sorted;
    }

    private List<Integer> waiting() {
        List<Integer> waiting = new ArrayList<>();
        for (int i = 0; i < now.how.size(); i++) {
            if (now.how.get(i) == 0) {
                waiting.add(i);
            }
        }
        return waiting;
    }

    private List<Integer> gather(List<Integer> waiting, int most) {
        List<Integer> left = byDue(waiting);
        List<Integer> wave = new ArrayList<>();
        if (left.isEmpty()) {
            return wave;
        }
        wave.add(left.remove(0));
        while (wave.size() < most) {
            int units = 0;
            List<Integer> items = new ArrayList<>();
            for (int order : wave) {
                units += told.orders.get(order).units();
                items.addAll(told.orders.get(order).need.keySet());
            }
            // One number to be greatest: shared items weigh above others, others above the place in left.
            int best = -1;
            int bestRank = Integer.MIN_VALUE;
            for (int i = 0; i < left.size(); i++) {
                Order order = told.orders.get(left.get(i));
                if (units + order.units() > told.waveUnits) {
                    continue;
                }
                int shared = 0;
                for (int item : order.need.keySet()) {
                    shared += items.contains(item) ? 1 : 0;
                }
                int rank = shared * 10000 - (order.need.size() - shared) * 100 - i;
                if (rank > bestRank) {
                    bestRank = rank;
                    best = i;
                }
            }
            if (best < 0) {
                break;
            }
            wave.add(left.remove(best));
        }
        return wave;
    }

    private List<Integer> nextWave() {
        return gather(waiting(), told.waveOrders);
    }

    private List<Pick> picks(List<Integer> wave) {
        List<Pick> picks = new ArrayList<>();
        for (int item = 0; item < told.items.size(); item++) {
            int need = 0;
            for (int order : wave) {
                need += told.orders.get(order).need.getOrDefault(item, 0);
            }
            if (need > 0 && now.stock.get(item) > 0) {
                picks.add(new Pick(item, Math.min(need, now.stock.get(item))));
            }
        }
        picks.sort((a, b) -> told.items.get(a.item).place - told.items.get(b.item).place);
        return picks;
    }

    private List<Unit> unitsOf(List<Integer> wave, Pick pick) {
        List<Unit> units = new ArrayList<>();
        for (int order : byDue(wave)) {
            for (int i = 0; i < told.orders.get(order).need.getOrDefault(pick.item, 0); i++) {
                if (units.size() < pick.units) {
                    units.add(new Unit(order, pick.item));
                }
            }
        }
        return units;
    }

    int wave() {
        int bits = 0;
        for (int order : nextWave()) {
            bits += 1 << order;
        }
        return bits;
    }

    int pick(int i, int what) {
        List<Pick> picks = picks(nextWave());
        if (i == -1) {
            return picks.size();
        }
        if (i < 0 || i >= picks.size() || what < 0 || what > 1) {
            return -2;
        }
        return what == 0 ? picks.get(i).item : picks.get(i).units;
    }

    int walk() {
        int sum = 0;
        int at = 0;
        for (Pick pick : picks(nextWave())) {
            sum += Math.abs(told.items.get(pick.item).place - at);
            at = told.items.get(pick.item).place;
        }
        return sum + at;
    }

    int cost(int a, int b) {
        try {
            return Math.addExact(Math.multiplyExact(a, pick(-1, 0)), Math.multiplyExact(b, walk()));
        } catch (ArithmeticException noInt) {
            return Integer.MIN_VALUE;
        }
    }

    // ---- acts

    private void remember() {
        past.add(now.copy());
        if (past.size() > 12) {
            past.remove(0);
        }
    }

    int release() {
        List<Integer> wave = nextWave();
        if (wave.isEmpty()) {
            return -1;
        }
        remember();
        List<Pick> picks = picks(wave);
        for (int order : wave) {
            now.how.set(order, 1);
            told.orders.get(order).need.forEach((item, units) -> now.late.put(new Unit(order, item), units));
        }
        for (Pick pick : picks) {
            for (Unit unit : unitsOf(wave, pick)) {
                now.belt.add(unit);
                now.late.merge(unit, -1, Integer::sum);
                now.stock.set(unit.item, now.stock.get(unit.item) - 1);
            }
        }
        return wave.size();
    }

    int step(int n) {
        if (n < 1 || n > 200 || now.belt.isEmpty()) {
            return -1;
        }
        remember();
        int came = 0;
        while (came < n && !now.belt.isEmpty()) {
            take(now.belt.remove(0));
            came++;
        }
        return came;
    }

    private void take(Unit unit) {
        int free = freeHoles();
        if (!come(unit)) {
            now.aside.add(unit);
        } else if (freeHoles() > free || now.how.get(unit.order) == 4) {
            settle();
        }
    }

    private int freeHoles() {
        int free = 0;
        for (int order : now.holes) {
            free += order < 0 ? 1 : 0;
        }
        return free;
    }

    private boolean come(Unit unit) {
        int order = unit.order;
        if (now.how.get(order) == 1) {
            int free = now.holes.indexOf(-1);
            if (free < 0) {
                return false;
            }
            now.holes.set(free, order);
            now.how.set(order, 2);
        }
        now.has.merge(unit, 1, Integer::sum);
        if (of(now.has, order, null) == told.orders.get(order).units()) {
            if (now.how.get(order) == 2) {
                now.holes.set(now.holes.indexOf(order), -1);
            }
            now.how.set(order, 4);
            now.whole.add(order);
        }
        return true;
    }

    /** From the first one on again behind every unit that came, so no hole can go to a later one. */
    private void settle() {
        int i = 0;
        while (i < now.aside.size()) {
            if (come(now.aside.get(i))) {
                now.aside.remove(i);
                i = 0;
            } else {
                i++;
            }
        }
    }

    int stock(int item, int n) {
        if (!isItem(item) || n < 1 || n > 99) {
            return -1;
        }
        remember();
        now.stock.set(item, Math.min(99, now.stock.get(item) + n));
        int came = 0;
        List<Integer> all = new ArrayList<>();
        for (int order = 0; order < told.orders.size(); order++) {
            all.add(order);
        }
        for (int order : byDue(all)) {
            Unit unit = new Unit(order, item);
            while (now.stock.get(item) > 0 && now.late.getOrDefault(unit, 0) > 0) {
                now.stock.set(item, now.stock.get(item) - 1);
                now.late.merge(unit, -1, Integer::sum);
                now.belt.add(unit);
                came++;
            }
        }
        return came;
    }

    int by(int order) {
        if (!isOrder(order) || now.how.get(order) != 2) {
            return -1;
        }
        remember();
        int hole = now.holes.indexOf(order);
        now.holes.set(hole, -1);
        now.how.set(order, 3);
        settle();
        return hole;
    }

    // ---- the belt, the wall

    private static int unit(List<Unit> units, int i, int what) {
        if (i == -1) {
            return units.size();
        }
        if (i < 0 || i >= units.size() || what < 0 || what > 1) {
            return -2;
        }
        return what == 0 ? units.get(i).order : units.get(i).item;
    }

    int belt(int i, int what) {
        return unit(now.belt, i, what);
    }

    int aside(int i, int what) {
        return unit(now.aside, i, what);
    }

    int hole(int hole) {
        return hole < 0 || hole >= now.holes.size() ? -2 : now.holes.get(hole);
    }

    int whole(int k) {
        return k == -1 ? now.whole.size() : k < 0 || k >= now.whole.size() ? -2 : now.whole.get(k);
    }

    int stuck() {
        int bits = 0;
        for (int order : now.holes) {
            boolean comes = now.belt.stream().anyMatch(u -> u.order == order)
                    || now.aside.stream().anyMatch(u -> u.order == order);
            if (order >= 0 && !comes) {
                bits |= 1 << order;
            }
        }
        return bits;
    }

    // ---- in thought

    private int needs(List<Integer> wave, List<Pick> picks) {
        Map<Integer, Integer> got = new HashMap<>();
        Map<Integer, Boolean> open = new TreeMap<>();
        int most = 0;
        for (Pick pick : picks) {
            for (Unit unit : unitsOf(wave, pick)) {
                open.put(unit.order, true);
                most = Math.max(most, open.size());
                if (got.merge(unit.order, 1, Integer::sum) == told.orders.get(unit.order).units()) {
                    open.remove(unit.order);
                }
            }
        }
        return most;
    }

    int needs() {
        List<Integer> wave = nextWave();
        return needs(wave, picks(wave));
    }

    private void orders(List<Pick> left, List<Pick> taken, List<List<Pick>> all) {
        if (left.isEmpty()) {
            all.add(new ArrayList<>(taken));
        }
        for (Pick next : left) {
            List<Pick> rest = new ArrayList<>(left);
            rest.remove(next);
            taken.add(next);
            orders(rest, taken, all);
            taken.remove(taken.size() - 1);
        }
    }

    int best(int what) {
        List<Integer> wave = nextWave();
        List<Pick> picks = picks(wave);
        if (picks.size() > 6) {
            return -2;
        }
        if (picks.isEmpty() || what < 0 || what > picks.size()) {
            return -1;
        }
        picks.sort((a, b) -> a.item - b.item);
        List<List<Pick>> all = new ArrayList<>();
        orders(picks, new ArrayList<>(), all);
        List<Pick> best = null;
        int least = Integer.MAX_VALUE;
        for (List<Pick> one : all) {
            int needs = needs(wave, one);
            if (needs < least) {
                least = needs;
                best = one;
            }
        }
        return what == 0 ? least : best.get(what - 1).item;
    }

    int sizes(int orders, int what) {
        if (orders < 1 || orders > 8 || what < 0 || what > 1) {
            return -1;
        }
        List<Integer> left = waiting();
        int waves = 0;
        int picks = 0;
        while (!left.isEmpty()) {
            List<Integer> wave = gather(left, orders);
            Map<Integer, Integer> items = new TreeMap<>();
            for (int order : wave) {
                items.putAll(told.orders.get(order).need);
            }
            waves++;
            picks += items.size();
            left.removeAll(wave);
        }
        return what == 0 ? waves : picks;
    }

    int bestSize() {
        int best = 8;
        for (int size = 7; size >= 1; size--) {
            best = sizes(size, 1) <= sizes(best, 1) ? size : best;
        }
        return best;
    }

    int wouldBe() {
        State before = now.copy();
        while (!now.belt.isEmpty()) {
            take(now.belt.remove(0));
        }
        int whole = now.whole.size();
        now = before;
        return whole;
    }

    // ---- undone, kept

    int undo() {
        if (past.isEmpty()) {
            return -1;
        }
        now = past.remove(past.size() - 1);
        return past.size();
    }

    boolean keep(int k, boolean back) {
        if (k != 0 && k != 1 || back && !kept.containsKey(k)) {
            return false;
        }
        if (back) {
            now = kept.get(k).copy();
            past.clear();
        } else {
            kept.put(k, now.copy());
        }
        return true;
    }

    int count(int what) {
        return switch (what) {
            case 0 -> told.items.size();
            case 1 -> told.orders.size();
            case 2 -> told.holes;
            case 3 -> freeHoles();
            case 4 -> waiting().size();
            case 5 -> of(now.late, null, null);
            case 6 -> past.size();
            case 7 -> tape.size();
            case 8 -> told.waveOrders;
            case 9 -> told.waveUnits;
            default -> -1;
        };
    }
}
