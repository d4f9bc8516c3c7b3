import java.util.ArrayList;
import java.util.HashSet;
import java.util.List;
import java.util.Map;
import java.util.Set;
import java.util.function.Predicate;
import java.util.function.ToIntFunction;
import java.util.regex.Matcher;
import java.util.regex.Pattern;

/** The texts' language by plain recursive descent, one method for each line of the grammar. */
final class NaiveReader {
    private static final Pattern TOKEN = Pattern.compile("[a-zA-Z]+|[0-9]+|<=|>=|[^ \n]", Pattern.DOTALL);
    private static final Set<String> BONE_NAMES = Set.of("weight", "lies", "beside", "x", "y", "hour");
    private static final Set<String> CROP_NAMES = Set.of("age", "x", "y", "area", "water");
    private static final Set<String> ALL_NAMES = Set.of("weight", "lies", "beside", "x", "y", "hour", "strength",
            "spare", "many", "age", "area", "water");

    int fault = 0;
    int place = -1;
    private final List<String> tokens = new ArrayList<>();
    private final List<Integer> places = new ArrayList<>();
    private int at = 0;
    private int open = 0;
    private String kind = "";

    private static final class Fault extends RuntimeException {
        private static final long serialVersionUID = 1L;
    }

    NaiveReader(String tape) {
        Matcher m = TOKEN.matcher(tape);
        while (m.find()) {
            tokens.add(m.group());
            places.add(m.start());
        }
        tokens.add("");
        places.add(tape.length());
    }

    private String token() {
        return tokens.get(at);
    }

    private void stop(int what) {
        fault = what;
        place = places.get(at);
        throw new Fault();
    }

    private void take(String wanted) {
        if (!token().equals(wanted)) {
            stop(1);
        }
        at++;
    }

    private boolean isNumber() {
        return token().matches("[0-9]+");
    }

    private int number(int least, int most) {
        if (!isNumber()) {
            stop(1);
        }
        java.math.BigInteger value = new java.math.BigInteger(token());
        if (value.bitLength() > 30 || value.intValue() < least || value.intValue() > most) {
            stop(2);
        }
        at++;
        return value.intValue();
    }

    List<NaiveFences.Clause> read() {
        try {
            List<NaiveFences.Clause> clauses = new ArrayList<>();
            Set<String> once = new HashSet<>();
            while (!token().isEmpty()) {
                clauses.add(clause(once, clauses.size()));
            }
            return clauses;
        } catch (Fault f) {
            return null;
        }
    }

    private NaiveFences.Clause clause(Set<String> once, int before) {
        kind = token();
        if (!Set.of("hold", "far", "crop", "found", "bone", "stake").contains(kind)) {
            stop(1);
        }
        if (Set.of("hold", "far", "crop").contains(kind) && !once.add(kind)) {
            stop(4);
        }
        if (before == 20) {
            stop(6);
        }
        at++;
        ToIntFunction<Map<String, Integer>> sum = null;
        Predicate<Map<String, Integer>> either = null;
        int n = 0;
        int x = 0;
        int y = 0;
        if (kind.equals("found")) {
            either = either();
        } else if (kind.equals("bone") || kind.equals("stake")) {
            n = kind.equals("bone") ? number(1, 99) : number(0, 5);
            take("at");
            x = number(0, 7);
            take(",");
            y = number(0, 5);
        } else {
            sum = sum();
        }
        String of = kind;
        take(";");
        return new NaiveFences.Clause(of, sum, either, n, x, y);
    }

    private Predicate<Map<String, Integer>> either() {
        Predicate<Map<String, Integer>> left = both();
        while (token().equals("or")) {
            at++;
            Predicate<Map<String, Integer>> a = left;
            Predicate<Map<String, Integer>> b = both();
            left = v -> a.test(v) | b.test(v);
        }
        return left;
    }

    private Predicate<Map<String, Integer>> both() {
        Predicate<Map<String, Integer>> left = ask();
        while (token().equals("and")) {
            at++;
            Predicate<Map<String, Integer>> a = left;
            Predicate<Map<String, Integer>> b = ask();
            left = v -> a.test(v) & b.test(v);
        }
        return left;
    }

    private void opened() {
        open++;
        if (open == 9) {
            stop(3);
        }
        at++;
    }

    private Predicate<Map<String, Integer>> ask() {
        if (token().equals("not")) {
            opened();
            Predicate<Map<String, Integer>> inner = ask();
            open--;
            return v -> !inner.test(v);
        }
        ToIntFunction<Map<String, Integer>> a = sum();
        String op = token();
        if (!Set.of("<", "<=", ">", ">=", "=", "#").contains(op)) {
            stop(1);
        }
        at++;
        ToIntFunction<Map<String, Integer>> b = sum();
        return v -> compare(op, a.applyAsInt(v), b.applyAsInt(v));
    }

    private static boolean compare(String op, int a, int b) {
        return switch (op) {
            case "<" -> a < b;
            case "<=" -> a <= b;
            case ">" -> a > b;
            case ">=" -> a >= b;
            case "=" -> a == b;
            default -> a != b;
        };
    }

    private static int cut(long value) {
        return (int) Math.max(-1000000L, Math.min(1000000L, value));
    }

    private ToIntFunction<Map<String, Integer>> sum() {
        ToIntFunction<Map<String, Integer>> left = product();
        while (token().equals("+") || token().equals("-")) {
            long sign = token().equals("+") ? 1 : -1;
            at++;
            ToIntFunction<Map<String, Integer>> a = left;
            ToIntFunction<Map<String, Integer>> b = product();
            left = v -> cut(a.applyAsInt(v) + sign * b.applyAsInt(v));
        }
        return left;
    }

    private ToIntFunction<Map<String, Integer>> product() {
        ToIntFunction<Map<String, Integer>> left = one();
        while (token().equals("*") || token().equals("/")) {
            boolean times = token().equals("*");
            at++;
            ToIntFunction<Map<String, Integer>> a = left;
            ToIntFunction<Map<String, Integer>> b = one();
            left = v -> {
                long p = a.applyAsInt(v);
                long q = b.applyAsInt(v);
                return cut(times ? p * q : q == 0 ? 0 : p / q);
            };
        }
        return left;
    }

    private ToIntFunction<Map<String, Integer>> one() {
        String t = token();
        if (isNumber()) {
            int value = number(0, 9999);
            return v -> value;
        }
        if (ALL_NAMES.contains(t)) {
            return name(t);
        }
        if (t.equals("(")) {
            opened();
            ToIntFunction<Map<String, Integer>> inner = sum();
            take(")");
            open--;
            return inner;
        }
        if (t.equals("-")) {
            opened();
            ToIntFunction<Map<String, Integer>> inner = one();
            open--;
            return v -> -inner.applyAsInt(v);
        }
        if (t.equals("min") || t.equals("max")) {
            at++;
            if (!token().equals("(")) {
                stop(1);
            }
            opened();
            ToIntFunction<Map<String, Integer>> a = sum();
            take(",");
            ToIntFunction<Map<String, Integer>> b = sum();
            take(")");
            open--;
            return t.equals("min") ? v -> Math.min(a.applyAsInt(v), b.applyAsInt(v))
                    : v -> Math.max(a.applyAsInt(v), b.applyAsInt(v));
        }
        stop(1);
        return null;
    }

    private ToIntFunction<Map<String, Integer>> name(String name) {
        boolean ofBone = BONE_NAMES.contains(name);
        boolean may = switch (kind) {
            case "crop" -> CROP_NAMES.contains(name);
            case "far" -> ofBone || name.equals("strength") || name.equals("spare");
            case "found" -> ofBone || name.equals("many");
            default -> ofBone;
        };
        if (!may) {
            stop(5);
        }
        at++;
        return v -> v.get(name);
    }
}
