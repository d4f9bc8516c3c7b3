import java.io.PrintWriter;
import java.io.StringWriter;
import java.util.ArrayList;
import java.util.HashMap;
import java.util.HashSet;
import java.util.List;
import java.util.Map;
import java.util.Set;
import java.util.TreeMap;
import java.util.TreeSet;
import java.util.regex.Matcher;
import java.util.regex.Pattern;
import java.util.spi.ToolProvider;

/**
 * Rule 11 of LANGUAGE.md: calls of the class's own methods go at most eight deep. Of methods that call one another
 * in a ring (rule 8) each counts once.
 */
public final class CallDepthTest {
    private static final int DEEPEST = 8;
    private static final Pattern CLASS = Pattern.compile("class (WalkingFences[$\\w]*) ?.*\\{$");
    private static final Pattern METHOD = Pattern.compile("^  [\\w].* ?\\b([\\w$]+)\\(.*\\);$");
    private static final Pattern CALL = Pattern.compile("invoke\\w+ .*// Method (?:(WalkingFences[$\\w]*)\\.)?(\"?[\\w<>]+\"?):");

    private static final Map<String, Set<String>> CALLS = new TreeMap<>();
    private static final Map<String, List<String>> DEEPEST_PATHS = new HashMap<>();

    public static void main(String[] args) {
        ToolProvider javap = ToolProvider.findFirst("javap").orElse(null);
        if (javap == null) {
            System.out.println("this machine has no javap: not looked at");
            return;
        }
        List<String> command = new ArrayList<>(List.of("-c", "-p", "-cp", System.getProperty("java.class.path"), "WalkingFences"));
        for (Class<?> c : WalkingFences.class.getDeclaredClasses()) {
            command.add(c.getName());
        }
        StringWriter out = new StringWriter();
        javap.run(new PrintWriter(out), new PrintWriter(out), command.toArray(new String[0]));
        gather(out.toString());
        List<String> deepest = List.of();
        for (String method : CALLS.keySet()) {
            List<String> path = path(method);
            deepest = path.size() > deepest.size() ? path : deepest;
        }
        System.out.println(CALLS.size() + " methods, calls " + deepest.size() + " deep: " + String.join(" > ", deepest));
        if (CALLS.size() < 100 || deepest.size() > DEEPEST) {
            System.exit(1);
        }
    }

    private static void gather(String listing) {
        String inClass = "";
        String inMethod = "";
        for (String line : listing.split("\n")) {
            Matcher c = CLASS.matcher(line);
            Matcher m = METHOD.matcher(line);
            Matcher call = CALL.matcher(line);
            if (!line.startsWith(" ") && c.find()) {
                inClass = c.group(1);
            } else if (m.find()) {
                String name = m.group(1).equals(inClass) || inClass.endsWith("$" + m.group(1)) ? "<init>" : m.group(1);
                inMethod = inClass + "." + name;
                CALLS.computeIfAbsent(inMethod, k -> new TreeSet<>());
            } else if (call.find() && CALLS.containsKey(inMethod) && !line.contains("java/lang/")) {
                String of = call.group(1) == null ? inClass : call.group(1);
                CALLS.get(inMethod).add(of + "." + call.group(2).replace("\"", ""));
            }
        }
    }

    private static boolean reaches(String from, String to) {
        Set<String> seen = new HashSet<>();
        List<String> open = new ArrayList<>(List.of(from));
        while (!open.isEmpty()) {
            for (String next : CALLS.getOrDefault(open.remove(open.size() - 1), Set.of())) {
                if (next.equals(to)) {
                    return true;
                }
                if (seen.add(next)) {
                    open.add(next);
                }
            }
        }
        return false;
    }

    /** The longest row of calls from a method on; a ring's methods stand in it one behind the other. */
    private static List<String> path(String method) {
        List<String> known = DEEPEST_PATHS.get(method);
        if (known != null) {
            return known;
        }
        Set<String> ring = new TreeSet<>(Set.of(method));
        for (String other : CALLS.keySet()) {
            if (reaches(method, other) && reaches(other, method)) {
                ring.add(other);
            }
        }
        List<String> behind = List.of();
        for (String one : ring) {
            for (String next : CALLS.getOrDefault(one, Set.of())) {
                List<String> path = ring.contains(next) ? List.of() : path(next);
                behind = path.size() > behind.size() ? path : behind;
            }
        }
        List<String> whole = new ArrayList<>(ring);
        whole.addAll(behind);
        for (String one : ring) {
            DEEPEST_PATHS.put(one, whole);
        }
        return whole;
    }
}
