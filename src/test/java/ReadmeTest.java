import java.io.IOException;
import java.lang.reflect.Method;
import java.lang.reflect.Modifier;
import java.nio.file.Files;
import java.nio.file.Path;
import java.util.Set;
import java.util.TreeSet;
import java.util.regex.Matcher;
import java.util.regex.Pattern;

/** README.md: its example answers as it says there, and its table has every call. */
public final class ReadmeTest {
    private static final Check CHECK = new Check("ReadmeTest");
    private static final Pattern CALL = Pattern.compile("x\\.(\\w+)\\(([^)]*)\\); *// (-?\\w+):.*");

    public static void main(String[] args) throws IOException, ReflectiveOperationException {
        String readme = Files.readString(Path.of("README.md"));
        example(readme);
        table(readme);
        CHECK.due("it says how to run the tests", readme.contains("    .ci/run"), true);
        CHECK.end();
    }

    private static void example(String readme) throws ReflectiveOperationException {
        WaveWall x = new WaveWall();
        int calls = 0;
        for (String line : readme.split("\n")) {
            Matcher call = CALL.matcher(line);
            if (call.matches()) {
                calls++;
                String answer = String.valueOf(answer(x, call.group(1), call.group(2)));
                CHECK.same(line, answer, call.group(3));
            } else {
                CHECK.due("understood: " + line, line.startsWith("x."), false);
            }
        }
        CHECK.due("there is an example", calls > 0, true);
    }

    private static Object answer(WaveWall x, String name, String given) throws ReflectiveOperationException {
        String[] words = given.isEmpty() ? new String[0] : given.split(", ");
        for (Method method : WaveWall.class.getMethods()) {
            if (method.getName().equals(name) && method.getParameterCount() == words.length) {
                Object[] values = new Object[words.length];
                for (int i = 0; i < words.length; i++) {
                    boolean isBoolean = method.getParameterTypes()[i] == boolean.class;
                    values[i] = isBoolean ? (Object) Boolean.valueOf(words[i]) : Integer.decode(words[i]);
                }
                return method.invoke(x, values);
            }
        }
        return "no such call";
    }

    private static void table(String readme) {
        Set<String> told = new TreeSet<>();
        for (String line : readme.split("\n")) {
            Matcher name = Pattern.compile("`(\\w+)`").matcher(line);
            while (line.startsWith("|") && name.find()) {
                told.add(name.group(1));
            }
        }
        Set<String> face = new TreeSet<>();
        for (Method method : WaveWall.class.getDeclaredMethods()) {
            if (Modifier.isPublic(method.getModifiers())) {
                face.add(method.getName());
            }
        }
        CHECK.same("calls of the table", told.toString(), face.toString());
    }
}
