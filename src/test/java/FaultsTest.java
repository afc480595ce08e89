import java.util.ArrayList;
import java.util.Arrays;
import java.util.Collections;
import java.util.HashMap;
import java.util.List;
import java.util.Map;
import java.util.Random;

/**
 * "FAULTS, the one whose place is least; of one place the first of this list": texts with several
 * faults at once. Here a whole text is gone through, all faults of it are written down, and only then
 * the one that is due is looked for; WaveWall stops at the first that it meets.
 */
public final class FaultsTest {
    private static final Check CHECK = new Check("FaultsTest");
    private static final List<String> HEADS = List.of("holes", "wave", "item", "order");
    private static final String[] ODD_NAMES = {"a", "b", "c", "d", "e", "item", "order", "wave", "holes", "zzzzzz",
        "zzzzzzz"};
    private static final String[] ODD_NUMBERS = {"0", "00", "09", "8", "9", "10", "60", "61", "99", "100", "010"};
    private static final String[] ODD_BYTES = {";", "?", "\t", "\r", "\0", "\u0080", "\u00ff", "A", "a", "1", " ", "\n"};

    public static void main(String[] args) {
        int texts = args.length > 0 ? Integer.parseInt(args[0]) : 8000;
        WaveWall wall = new WaveWall();
        int[] kinds = new int[6];
        Random random = new Random(12);
        for (int i = 0; i < texts && CHECK.wrong() == 0; i++) {
            // A few objects are enough for all texts, but none is used for too many calls.
            wall = i % 10 == 0 ? new WaveWall() : wall;
            String text = new Maker(random).text();
            int due = new Finder(text).due();
            int itemsBefore = wall.count(0);
            int answer = Check.tell(wall, text);
            CHECK.due("wall of \"" + text + "\"", answer, due);
            if (due < 0) {
                CHECK.due("ITEMS behind a FAULT", wall.count(0), itemsBefore);
            }
            CHECK.due("THE TAPE behind it", wall.count(7), 0);
            kinds[due < 0 ? (-2 - due) % 8 : 0]++;
        }
        for (int kind = 0; kind < kinds.length; kind++) {
            CHECK.due("there are texts with fault " + kind, kinds[kind] >= texts / 50, true);
        }
        CHECK.end();
    }

    /** Finds all faults of a text. */
    private static final class Finder {
        private final String text;
        private final List<Integer> faults = new ArrayList<>();
        private final List<String> lines = new ArrayList<>();
        private final List<String> names = new ArrayList<>();
        private final List<String> items = new ArrayList<>();
        private final List<String> itemsOfOrder = new ArrayList<>();
        private final Map<String, Integer> heads = new HashMap<>();
        private String head = "";
        // How many tokens of the line came behind its head.
        private int behind = 0;

        Finder(String text) {
            this.text = text;
        }

        int due() {
            int at = 0;
            boolean goesOn = true;
            while (goesOn && at < text.length()) {
                int end = at + 1;
                while (end < text.length() && isRun(text.substring(at, end + 1))) {
                    end++;
                }
                String token = text.substring(at, end);
                if (!token.equals(" ") && !token.equals("\n")) {
                    goesOn = token.matches("[a-z]{1,6}|[0-9]{1,2}|;") && goOn(token, at);
                    if (!goesOn) {
                        fault(at, 1);
                    }
                }
                at = end;
            }
            if (goesOn && !head.isEmpty()) {
                fault(text.length(), 1);
            }
            return faults.isEmpty() ? lines.size() : -2 - Collections.min(faults);
        }

        private static boolean isRun(String signs) {
            return signs.matches("[a-z]+|[0-9]+");
        }

        // Of one place the least number of a fault is the first of the list, so the least sum is due.
        private void fault(int place, int kind) {
            faults.add(8 * place + kind);
        }

        private static boolean isName(String token) {
            return token.matches("[a-z]+") && !HEADS.contains(token);
        }

        private boolean goOn(String token, int at) {
            if (head.isEmpty()) {
                return begins(token, at);
            }
            behind++;
            if (token.equals(";")) {
                return ends();
            }
            switch (head) {
                case "holes":
                    return behind == 1 && number(token, at, 1, 8);
                case "wave":
                    return behind == 1 && number(token, at, 1, 8) || behind == 2 && number(token, at, 1, 60);
                case "item":
                    return behind == 1 && name(token, at) || (behind == 2 || behind == 3) && number(token, at, 0, 99);
                default:
                    return behind == 1 && name(token, at) || behind == 2 && number(token, at, 0, 99)
                            || behind > 2 && behind % 2 == 1 && itemOfOrder(token, at)
                            || behind > 2 && behind % 2 == 0 && number(token, at, 1, 9);
            }
        }

        private boolean begins(String token, int at) {
            if (!HEADS.contains(token)) {
                return false;
            }
            int before = heads.merge(token, 1, Integer::sum) - 1;
            if ((token.equals("holes") || token.equals("wave")) && before > 0) {
                fault(at, 2);
            }
            if (token.equals("item") && before >= 10 || token.equals("order") && before >= 16) {
                fault(at, 5);
            }
            head = token;
            behind = 0;
            itemsOfOrder.clear();
            return true;
        }

        private boolean ends() {
            boolean may = switch (head) {
                case "holes" -> behind == 2;
                case "wave" -> behind == 3;
                case "item" -> behind == 4;
                default -> behind >= 5 && behind % 2 == 1;
            };
            if (may) {
                lines.add(head);
                head = "";
            }
            return may;
        }

        private boolean number(String token, int at, int least, int most) {
            if (!token.matches("[0-9]+")) {
                return false;
            }
            if (Integer.parseInt(token) < least || Integer.parseInt(token) > most) {
                fault(at, 4);
            }
            return true;
        }

        private boolean name(String token, int at) {
            if (!isName(token)) {
                return false;
            }
            if (names.contains(token)) {
                fault(at, 2);
            }
            names.add(token);
            if (head.equals("item")) {
                items.add(token);
            }
            return true;
        }

        private boolean itemOfOrder(String token, int at) {
            if (!isName(token)) {
                return false;
            }
            if (itemsOfOrder.contains(token)) {
                fault(at, 2);
            }
            if (!items.contains(token)) {
                fault(at, 3);
            }
            itemsOfOrder.add(token);
            if (itemsOfOrder.size() > 6) {
                fault(at, 5);
            }
            return true;
        }
    }

    /** Makes texts that are nearly right. */
    private static final class Maker {
        private final Random random;
        private final int oddOfHundred;
        private final List<String> free = new ArrayList<>();
        private final List<String> items = new ArrayList<>();
        private final List<String> tokens = new ArrayList<>();

        Maker(Random random) {
            this.random = random;
            this.oddOfHundred = random.nextInt(4);
            for (char sign = 'a'; sign <= 'z'; sign++) {
                free.add(String.valueOf(sign));
                free.add(String.valueOf(sign) + sign);
            }
            Collections.shuffle(free, random);
        }

        String text() {
            for (String head : heads()) {
                tokens.add(head);
                if (head.equals("holes") || head.equals("wave")) {
                    sizes(head);
                } else {
                    String name = free.remove(free.size() - 1);
                    tokens.add(isOdd() ? ODD_NAMES[random.nextInt(ODD_NAMES.length)] : name);
                    number(0, 99);
                    if (head.equals("item")) {
                        items.add(tokens.get(tokens.size() - 2));
                        number(0, 99);
                    } else {
                        lines();
                    }
                }
                tokens.add(";");
            }
            String text = spoilt(joined());
            return text.substring(0, Math.min(text.length(), 600));
        }

        private boolean isOdd() {
            return random.nextInt(100) < oddOfHundred;
        }

        private List<String> heads() {
            List<String> heads = new ArrayList<>();
            heads.addAll(Collections.nCopies(pick(2, 7, 8, 10, 11), "item"));
            heads.addAll(Collections.nCopies(pick(1, 3, 16, 17, 18), "order"));
            for (String head : List.of("holes", "wave")) {
                for (int times = pick(0, 0, 0, 1, 1, 1, 2); times > 0; times--) {
                    heads.add(random.nextInt(heads.size() + 1), head);
                }
            }
            if (random.nextInt(8) == 0) {
                Collections.shuffle(heads, random);
            }
            return heads;
        }

        private int pick(int... some) {
            return some[random.nextInt(some.length)];
        }

        private void number(int least, int most) {
            int number = least + random.nextInt(most - least + 1);
            String plain = random.nextInt(9) == 0 && number < 10 ? "0" + number : String.valueOf(number);
            tokens.add(isOdd() ? ODD_NUMBERS[random.nextInt(ODD_NUMBERS.length)] : plain);
        }

        private void sizes(String head) {
            number(1, 8);
            if (head.equals("wave")) {
                number(1, 60);
            }
        }

        private void lines() {
            List<String> left = new ArrayList<>(items);
            Collections.shuffle(left, random);
            for (int many = pick(1, 1, 1, 1, 1, 2, 6, 7); many > 0; many--) {
                boolean odd = left.isEmpty() || isOdd();
                String again = items.isEmpty() || random.nextBoolean() ? ODD_NAMES[random.nextInt(ODD_NAMES.length)]
                        : items.get(random.nextInt(items.size()));
                tokens.add(odd ? again : left.remove(left.size() - 1));
                number(1, 9);
            }
        }

        private String joined() {
            StringBuilder text = new StringBuilder();
            for (String token : tokens) {
                boolean runsOn = text.length() > 0
                        && Finder.isRun(text.substring(text.length() - 1) + token.substring(0, 1));
                if (runsOn && random.nextInt(500) > 0 || random.nextInt(20) == 0) {
                    text.append(Arrays.asList(" ", " ", " ", "\n", " \n ").get(random.nextInt(5)));
                }
                text.append(token);
            }
            return text.toString();
        }

        private String spoilt(String text) {
            int at = random.nextInt(text.length() + 1);
            switch (random.nextInt(12)) {
                case 0:
                    return text.substring(0, at);
                case 1:
                case 2:
                    return text.substring(0, at) + ODD_BYTES[random.nextInt(ODD_BYTES.length)] + text.substring(at);
                default:
                    return text;
            }
        }
    }
}
