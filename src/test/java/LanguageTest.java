import java.lang.reflect.Constructor;
import java.lang.reflect.Field;
import java.lang.reflect.Member;
import java.lang.reflect.Method;
import java.lang.reflect.Modifier;
import java.nio.file.Files;
import java.nio.file.Path;
import java.util.ArrayList;
import java.util.Arrays;
import java.util.List;
import java.util.Set;
import java.util.TreeSet;
import java.util.regex.Matcher;
import java.util.regex.Pattern;

/** The rules of LANGUAGE.md that a look at the source and at the classes can tell. */
public final class LanguageTest {
    private static final String FACE = "WalkingFences(int,int) bone(int,int) stake(int,int) well(int,boolean) "
            + "wind(int,int,int,int) plan(int,int) feed(int,int,int,int,int) end(int) text() fault(int) by(int) draw(int) "
            + "of(int,int) cell(int,int) farmer(int,int) hour(int) sow(int,int) reap(int) night(int,int,int) "
            + "odds(int,int,int) mean(int,int) best(int,int,int) time(int,int,int) keeps(int,int,int,int) calm() "
            + "disputes(int) map(int,int) made() hours(int,int) image() back() about(int) NONE";
    private static final String[] FORBIDDEN = {"\\bthrow\\b", "\\btry\\b", "\\bcatch\\b", "\\bsynchronized\\b",
        "\\bassert\\b", "->", "::", "\\bSystem\\.(?!arraycopy)", "\\bprotected\\b", "Exact\\(", "\\bdouble\\b",
        "\\bfloat\\b", "while \\(true\\)", "for \\(;;\\)", "\\bRandom\\b", "\\bThread\\b", "\\bgetClass\\b",
        "\\bstatic \\{", "\" \\+", "\\+ \""};
    private static int wrong = 0;

    public static void main(String[] args) throws Exception {
        String source = Files.readString(Path.of("src/main/java/WalkingFences.java"));
        String bare = source.replaceAll("(?s)/\\*.*?\\*/", "").replaceAll("//[^\n]*", "");
        for (String pattern : FORBIDDEN) {
            Matcher m = Pattern.compile(pattern).matcher(bare);
            if (m.find()) {
                complain("the source has " + m.group());
            }
        }
        imports(bare);
        face();
        classes();
        methodLengths(source);
        System.out.println(wrong == 0 ? "the rules that can be seen are kept" : wrong + " rules are broken");
        if (wrong != 0) {
            System.exit(1);
        }
    }

    private static void complain(String what) {
        wrong++;
        System.out.println(what);
    }

    private static void imports(String bare) {
        Matcher m = Pattern.compile("import ([^;]*);").matcher(bare);
        while (m.find()) {
            if (!Set.of("java.util.Arrays", "java.util.ArrayList", "java.util.List").contains(m.group(1))) {
                complain("import " + m.group(1));
            }
        }
    }

    private static String types(Class<?>[] types) {
        return "(" + String.join(",", Arrays.stream(types).map(Class::getSimpleName).toList()) + ")";
    }

    private static void face() {
        Set<String> seen = new TreeSet<>();
        for (Constructor<?> c : WalkingFences.class.getDeclaredConstructors()) {
            see(seen, c, "WalkingFences" + types(c.getParameterTypes()));
        }
        for (Method m : WalkingFences.class.getDeclaredMethods()) {
            see(seen, m, m.getName() + types(m.getParameterTypes()));
        }
        for (Field f : WalkingFences.class.getDeclaredFields()) {
            see(seen, f, f.getName());
        }
        if (!seen.equals(new TreeSet<>(List.of(FACE.split(" "))))) {
            complain("the face is " + seen);
        }
    }

    private static void see(Set<String> seen, Member member, String name) {
        if (Modifier.isPublic(member.getModifiers())) {
            seen.add(name);
        } else if (!Modifier.isPrivate(member.getModifiers()) && !member.isSynthetic()) {
            complain(name + " is neither public nor private");
        }
    }

    private static void classes() {
        List<Class<?>> all = new ArrayList<>(List.of(WalkingFences.class.getDeclaredClasses()));
        if (all.size() > 11) {
            complain(all.size() + " classes inside");
        }
        Set<String> open = new TreeSet<>();
        for (Method m : WalkingFences.class.getDeclaredMethods()) {
            if (Modifier.isPublic(m.getModifiers())) {
                open.add(m.getName());
            }
        }
        for (Class<?> c : all) {
            if (!Modifier.isStatic(c.getModifiers())) {
                complain(c + " isn't static");
            }
            for (Method m : c.getDeclaredMethods()) {
                if (open.contains(m.getName())) {
                    complain(m + " bears the name of a public one");
                }
            }
        }
        all.add(WalkingFences.class);
        for (Class<?> c : all) {
            fields(c);
            for (Method m : c.getDeclaredMethods()) {
                if (m.getParameterCount() > 7) {
                    complain(m + " has too many parameters");
                }
            }
        }
    }

    private static void fields(Class<?> c) {
        int own = 0;
        for (Field f : c.getDeclaredFields()) {
            boolean isStatic = Modifier.isStatic(f.getModifiers());
            own += isStatic ? 0 : 1;
            if (isStatic && (!Modifier.isFinal(f.getModifiers())
                    || !Set.of("int", "long", "boolean", "char", "String").contains(f.getType().getSimpleName()))) {
                complain(f + " is static");
            }
        }
        if (own > 20) {
            complain(c + " has " + own + " fields");
        }
    }

    /** A method begins and ends at the same indent. */
    private static void methodLengths(String source) {
        String[] lines = source.split("\n");
        for (int i = 0; i < lines.length; i++) {
            Matcher m = Pattern.compile("^( {4}| {8})[a-zA-Z].*\\) \\{$").matcher(lines[i]);
            if (m.find()) {
                int end = i;
                while (!lines[end].equals(m.group(1) + "}")) {
                    end++;
                }
                if (end - i > 60) {
                    complain("too long: " + lines[i].trim());
                }
            }
        }
    }
}
