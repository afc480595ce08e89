import java.io.IOException;
import java.lang.reflect.Constructor;
import java.lang.reflect.Field;
import java.lang.reflect.Method;
import java.lang.reflect.Modifier;
import java.nio.file.Files;
import java.nio.file.Path;
import java.util.ArrayList;
import java.util.Arrays;
import java.util.HashMap;
import java.util.List;
import java.util.Map;
import java.util.Set;
import java.util.TreeSet;
import java.util.regex.Matcher;
import java.util.regex.Pattern;

/** The public face, and what can be looked at of LANGUAGE.md in the source's words. */
public final class FaceTest {
    private static final Check CHECK = new Check("FaceTest");
    private static final String[] FACE = {
        "boolean keep(int, boolean)", "int aside(int, int)", "int alike(int, int)", "int belt(int, int)",
        "int best(int)", "int bestSize()", "int by(int)", "int cost(int, int)", "int count(int)",
        "int feed(int, int, int, int, int)", "int hole(int)", "int item(int, int)", "int needs()",
        "int order(int, int) throws NoSuchElementException", "int pick(int, int)", "int release()",
        "int sizes(int, int)", "int step(int)", "int stock(int, int)", "int stuck()", "int undo()",
        "int units(int, int, int)", "int walk()", "int wall(int)", "int wave()", "int whole(int)",
        "int wouldBe()"};
    private static final String[] UNWANTED = {
        "->", "::", "finally", "synchronized", "assert ", "Exact(", "package ", "catch", "Object", "String ",
        "protected", "System.out", "Throwable", "static {", "import java.util.*"};

    public static void main(String[] args) throws IOException {
        members();
        nested();
        words();
        methods();
        CHECK.due("NONE", WaveWall.NONE, -1);
        CHECK.end();
    }

    private static void members() {
        int modifiers = WaveWall.class.getModifiers();
        CHECK.due("public final class", Modifier.isPublic(modifiers) && Modifier.isFinal(modifiers), true);
        Set<String> seen = new TreeSet<>();
        Set<String> hidden = new TreeSet<>();
        for (Method method : WaveWall.class.getDeclaredMethods()) {
            if (Modifier.isPublic(method.getModifiers())) {
                seen.add(said(method));
            } else {
                CHECK.due(method + " is private", Modifier.isPrivate(method.getModifiers()), true);
                hidden.add(method.getName());
            }
        }
        Set<String> wanted = new TreeSet<>(Arrays.asList(FACE));
        CHECK.due("the methods " + seen, seen.equals(wanted), true);
        for (Method method : WaveWall.class.getDeclaredMethods()) {
            if (Modifier.isPublic(method.getModifiers())) {
                CHECK.due("private " + method.getName(), hidden.contains(method.getName()), false);
            }
        }
        for (Field field : WaveWall.class.getDeclaredFields()) {
            boolean open = field.getName().equals("NONE");
            CHECK.due(field + " is public", Modifier.isPublic(field.getModifiers()), open);
            CHECK.due(field + " is private", Modifier.isPrivate(field.getModifiers()), !open);
            if (Modifier.isStatic(field.getModifiers())) {
                CHECK.due(field + " is final", Modifier.isFinal(field.getModifiers()), true);
            }
        }
        Constructor<?>[] made = WaveWall.class.getDeclaredConstructors();
        CHECK.due("constructors", made.length, 1);
        CHECK.due("parameters of it", made[0].getParameterCount(), 0);
        CHECK.due("it is public", Modifier.isPublic(made[0].getModifiers()), true);
    }

    private static String said(Method method) {
        List<String> types = new ArrayList<>();
        for (Class<?> type : method.getParameterTypes()) {
            types.add(type.getSimpleName());
        }
        String said = method.getReturnType() + " " + method.getName() + "(" + String.join(", ", types) + ")";
        for (Class<?> thrown : method.getExceptionTypes()) {
            said += " throws " + thrown.getSimpleName();
        }
        return said;
    }

    private static void nested() {
        Class<?>[] inside = WaveWall.class.getDeclaredClasses();
        CHECK.due("at most twelve classes", inside.length < 12, true);
        for (Class<?> one : inside) {
            CHECK.due(one + " is static", Modifier.isStatic(one.getModifiers()), true);
            CHECK.due(one + " is not public", Modifier.isPublic(one.getModifiers()), false);
            int fields = 0;
            for (Field field : one.getDeclaredFields()) {
                fields += Modifier.isStatic(field.getModifiers()) ? 0 : 1;
            }
            CHECK.due(one + " has few fields", fields <= 20, true);
        }
    }

    /** Rule 11: methods of some sixty lines, calls at most eight deep. Names alone tell methods apart here. */
    private static void methods() throws IOException {
        Pattern head = Pattern.compile("^( {4}| {8})(?:(?:public|private|static) )*[\\w\\[\\]]+ (\\w+)\\(.*\\{$");
        Map<String, Set<String>> calls = new HashMap<>();
        List<String> lines = Files.readAllLines(Path.of("src/main/java/WaveWall.java"));
        for (int first = 0; first < lines.size(); first++) {
            Matcher found = head.matcher(lines.get(first));
            if (found.matches()) {
                int last = first + 1;
                while (!lines.get(last).equals(found.group(1) + "}")) {
                    last++;
                }
                CHECK.due(found.group(2) + " is short", last - first < 60, true);
                CHECK.due(found.group(2) + " is told once", calls.containsKey(found.group(2)), false);
                calls.put(found.group(2), called(lines.subList(first + 1, last)));
            }
        }
        CHECK.due("methods are found", calls.size() > FACE.length, true);
        for (String name : calls.keySet()) {
            CHECK.due("calls of " + name + " go eight deep at most", depth(calls, name, 0) <= 8, true);
        }
    }

    private static Set<String> called(List<String> body) {
        Set<String> names = new TreeSet<>();
        for (String line : body) {
            Matcher call = Pattern.compile("(?<!new )\\b(\\w+)\\(").matcher(line);
            while (call.find()) {
                names.add(call.group(1));
            }
        }
        return names;
    }

    private static int depth(Map<String, Set<String>> calls, String name, int above) {
        if (!calls.containsKey(name) || above > 20) {
            return above;
        }
        int most = above + 1;
        for (String called : calls.get(name)) {
            most = Math.max(most, depth(calls, called, above + 1));
        }
        return most;
    }

    private static void words() throws IOException {
        String source = Files.readString(Path.of("src/main/java/WaveWall.java"));
        for (String word : UNWANTED) {
            CHECK.due("the source has '" + word + "'", source.contains(word), false);
        }
        for (int i = 0; i < source.length(); i++) {
            if (source.charAt(i) > 126) {
                CHECK.due("a sign beyond 126 at " + i, source.charAt(i), 0);
            }
        }
    }
}
