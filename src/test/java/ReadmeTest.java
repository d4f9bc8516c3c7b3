import java.lang.reflect.Method;
import java.nio.file.Files;
import java.nio.file.Path;
import java.util.Set;
import java.util.TreeSet;
import java.util.regex.Matcher;
import java.util.regex.Pattern;

/** The examples of README.md answer what stands behind them, and its list of calls has every call of the face. */
public final class ReadmeTest {
    private static final Pattern MADE = Pattern.compile("WalkingFences x = new WalkingFences\\((\\d+), (\\d+)\\);");
    private static final Pattern CALL = Pattern.compile("x\\.(\\w+)\\(([^)]*)\\); +// (-?\\d+|true|false): .*");
    private static final Check CHECK = new Check("README.md");

    public static void main(String[] args) throws Exception {
        String whole = Files.readString(Path.of("README.md"));
        Matcher blocks = Pattern.compile("(?s)```java\n(.*?)```").matcher(whole);
        int examples = 0;
        while (blocks.find()) {
            examples++;
            follow(blocks.group(1).split("\n"));
        }
        CHECK.due("the examples", examples, 2);
        namesAll(whole);
        CHECK.finish();
    }

    private static void follow(String[] lines) throws Exception {
        Matcher made = MADE.matcher(lines[0]);
        if (!made.matches()) {
            CHECK.due("an example begins with a new object: " + lines[0], false, true);
            return;
        }
        WalkingFences x = new WalkingFences(Integer.parseInt(made.group(1)), Integer.parseInt(made.group(2)));
        for (int i = 1; i < lines.length; i++) {
            Matcher call = CALL.matcher(lines[i]);
            if (call.matches()) {
                String answer = String.valueOf(answer(x, call.group(1), call.group(2)));
                CHECK.due(lines[i] + " (" + answer + ")", answer.equals(call.group(3)), true);
            } else {
                CHECK.due("a call with its answer: " + lines[i], false, true);
            }
        }
    }

    private static Object answer(WalkingFences x, String name, String told) throws Exception {
        String[] words = told.isEmpty() ? new String[0] : told.split(", ");
        for (Method m : WalkingFences.class.getMethods()) {
            if (m.getName().equals(name) && m.getParameterCount() == words.length) {
                Object[] values = new Object[words.length];
                for (int i = 0; i < words.length; i++) {
                    boolean flag = m.getParameterTypes()[i] == boolean.class;
                    values[i] = flag ? (Object) Boolean.valueOf(words[i]) : (Object) Integer.decode(words[i]);
                }
                return m.invoke(x, values);
            }
        }
        return "no such call";
    }

    /** The names in backquotes that stand in the list of calls are those of the face. */
    private static void namesAll(String whole) {
        Set<String> listed = new TreeSet<>();
        int from = whole.indexOf("| for | calls |");
        int to = from < 0 ? -1 : whole.indexOf("\n\n", from);
        Matcher names = Pattern.compile("`(\\w+)`").matcher(to < 0 ? "" : whole.substring(from, to));
        while (names.find()) {
            CHECK.due(names.group(1) + " is listed once", listed.add(names.group(1)), true);
        }
        Set<String> face = new TreeSet<>();
        for (Method m : WalkingFences.class.getMethods()) {
            if (m.getDeclaringClass() == WalkingFences.class) {
                face.add(m.getName());
            }
        }
        CHECK.due("the calls listed " + listed, listed.equals(face), true);
    }
}
