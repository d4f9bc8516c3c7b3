import java.lang.reflect.Method;
import java.util.ArrayList;
import java.util.Arrays;
import java.util.List;
import java.util.Random;
import java.util.TreeMap;

/**
 * Random runs of calls, each answer held against NaiveFences. The runs are the same each time;
 * a first argument tells how many, a second with which seed they begin.
 */
public final class OracleTest {
    private static final int[] WILD = {-1, -2, 6, 7, 24, 25, 40, 41, 48, 100, 999, 1000, 10000,
        Integer.MIN_VALUE, Integer.MAX_VALUE};
    private final Random random;
    private final WalkingFences fences;
    private final NaiveFences naive;
    private final TextMaker maker;
    private final List<String> calls = new ArrayList<>();
    private final TreeMap<String, TreeMap<String, Integer>> seen;
    private final int cells;
    private boolean wrong = false;

    private OracleTest(long seed, TreeMap<String, TreeMap<String, Integer>> seen) {
        random = new Random(seed);
        maker = new TextMaker(random);
        int w = random.nextInt(11);
        int h = random.nextInt(9);
        fences = new WalkingFences(w, h);
        naive = new NaiveFences(w, h);
        cells = naive.about(0) * naive.about(1);
        this.seen = seen;
        calls.add("new(" + w + ", " + h + ")");
    }

    public static void main(String[] args) throws Exception {
        int runs = args.length > 0 ? Integer.parseInt(args[0]) : 400;
        long first = args.length > 1 ? Long.parseLong(args[1]) : 1;
        TreeMap<String, TreeMap<String, Integer>> seen = new TreeMap<>();
        int wrong = 0;
        for (long seed = first; seed < first + runs && wrong < 3; seed++) {
            OracleTest test = new OracleTest(seed, seen);
            test.run();
            wrong += test.wrong ? 1 : 0;
        }
        if (args.length > 0) {
            seen.forEach((call, counts) -> System.out.println(call + " " + counts));
        }
        System.out.println(wrong == 0 ? runs + " runs are as the naive one" : wrong + " runs are wrong");
        if (wrong != 0) {
            System.exit(1);
        }
    }

    private void call(String name, int... args) throws Exception {
        Method mine = method(WalkingFences.class, name);
        Method theirs = method(NaiveFences.class, name);
        Object[] given = new Object[args.length];
        for (int i = 0; i < args.length; i++) {
            given[i] = mine.getParameterTypes()[i] == boolean.class ? (Object) (args[i] != 0) : (Object) args[i];
        }
        Object got = mine.invoke(fences, given);
        Object due = theirs.invoke(naive, given);
        String call = name + Arrays.toString(given) + " = " + due;
        calls.add(call);
        seen.computeIfAbsent(name, n -> new TreeMap<>()).merge(sort(due), 1, Integer::sum);
        if (!got.equals(due) && !wrong) {
            wrong = true;
            calls.forEach(System.out::println);
            System.out.println("  but answered " + got);
        }
    }

    /** Which answers were seen is told, so that a run that only meets refusals is noticed. */
    private static String sort(Object due) {
        if (due instanceof Boolean b) {
            return b ? "true" : "false";
        }
        int n = (Integer) due;
        return n < 0 ? "below 0" : n == 0 ? "0" : "above 0";
    }

    private static Method method(Class<?> of, String name) {
        for (Method m : of.getDeclaredMethods()) {
            if (m.getName().equals(name) && java.lang.reflect.Modifier.isPublic(m.getModifiers())) {
                return m;
            }
        }
        throw new IllegalStateException(name);
    }

    /** Below n as a rule, something wild now and then. */
    private int below(int n) {
        return random.nextInt(40) == 0 ? WILD[random.nextInt(WILD.length)] : random.nextInt(Math.max(1, n));
    }

    private int aBone() {
        return below(naive.about(3));
    }

    private int aWind() {
        return below(naive.about(4));
    }

    /** One with a stake by preference. */
    private int aFarmer() {
        int farmer = random.nextInt(6);
        for (int i = 0; i < 5 && naive.farmer(farmer, 5) < 0; i++) {
            farmer = random.nextInt(6);
        }
        return random.nextInt(30) == 0 ? below(6) : farmer;
    }

    /** A cell of a farmer's own field by preference. */
    private int aCell(int farmer) {
        int stake = naive.farmer(farmer, 5);
        if (stake < 0 || random.nextInt(3) == 0) {
            return below(cells);
        }
        for (int i = 0; i < 20; i++) {
            int c = random.nextInt(cells);
            if (naive.cell(c, 0) == naive.cell(stake, 0)) {
                return c;
            }
        }
        return stake;
    }

    private void tellText() throws Exception {
        String text = maker.make();
        if (random.nextInt(15) != 0) {
            call("end", 0);
        }
        int before = naive.about(8);
        for (int i = 0; i < text.length(); i += 20) {
            int[] fives = new int[5];
            for (int k = 0; k < 20; k++) {
                int b = i + k < text.length() ? text.charAt(i + k) : random.nextInt(256);
                fives[k / 4] = fives[k / 4] << 8 | b;
            }
            call("feed", fives);
        }
        call("end", random.nextInt(30) == 0 ? below(301) : before + text.length());
        call("text");
        call("fault", 0);
        call("fault", 1);
        call("by", naive.about(5) - 1);
        if (random.nextInt(3) == 0) {
            call("draw", below(naive.about(5)));
        }
    }

    private void tellPlain() throws Exception {
        int bones = random.nextInt(random.nextBoolean() ? 26 : 10);
        for (int i = 0; i < bones; i++) {
            call("bone", below(cells), 1 + below(random.nextBoolean() ? 99 : 30));
        }
        for (int i = random.nextInt(6); i > 0; i--) {
            call("stake", below(6), below(cells));
        }
        for (int i = random.nextInt(4); i > 0; i--) {
            call("well", below(cells), 1);
        }
        for (int i = random.nextInt(6); i > 0; i--) {
            call("wind", below(3) - 1, below(3) - 1, below(100), below(10));
        }
        for (int i = random.nextInt(20); i > 0; i--) {
            call("plan", below(40), aWind());
        }
    }

    private void look() throws Exception {
        for (int i = 0; i < naive.about(3); i++) {
            for (int what = 0; what < 4; what++) {
                call("of", i, what);
            }
        }
        for (int i = 0; i < 6; i++) {
            for (int what = 0; what < 6; what++) {
                call("farmer", i, what);
            }
        }
        for (int i = 0; i < 10; i++) {
            call("about", i);
            call("cell", random.nextInt(cells), random.nextInt(5));
        }
    }

    private void run() throws Exception {
        tellPlain();
        if (random.nextInt(4) != 0) {
            call("image");
        }
        if (random.nextInt(3) != 0) {
            tellText();
        }
        for (int i = 0; i < 120 && !wrong; i++) {
            step(random.nextInt(31));
        }
        look();
    }

    private void step(int which) throws Exception {
        int farmer = aFarmer();
        switch (which) {
            case 0 -> call("bone", below(cells), below(100));
            case 1 -> call("stake", below(6), random.nextInt(9) == 0 ? -1 : below(cells));
            case 2 -> call("well", below(cells), random.nextInt(2));
            case 3 -> call("wind", below(3) - 1, below(3) - 1, below(100), below(10));
            case 4 -> call("plan", below(40), aWind());
            case 5 -> tellTextNowAndThen();
            case 6 -> call("by", random.nextInt(6) == 0 ? -1 : below(naive.about(5)));
            case 7 -> call("of", aBone(), below(4));
            case 8 -> call("cell", below(cells), below(5));
            case 9 -> call("farmer", below(6), below(6));
            case 10, 11 -> call("hour", aWind());
            case 12, 13 -> call("sow", farmer, aCell(farmer));
            case 14 -> call("reap", farmer);
            case 15, 16 -> call("night", below(6), aBone(), below(4));
            case 17 -> call("odds", farmer, random.nextInt(6) == 0 ? -1 : aCell(farmer), row(5));
            case 18 -> call("mean", farmer, row(5));
            case 19 -> call("best", farmer, row(3), below(3));
            case 20 -> call("time", farmer, aCell(farmer), 1 + below(20));
            case 21, 22 -> call("keeps", farmer, aCell(farmer), aBone(), 1 + below(random.nextBoolean() ? 40 : 5));
            case 23 -> call("calm");
            case 24 -> call("disputes", below(41));
            case 25 -> tellMap();
            case 26 -> call("made");
            case 27 -> call("hours", below(10000), 1 + below(40));
            case 28 -> call("image");
            case 29 -> backNowAndThen();
            default -> call("about", below(90));
        }
    }

    /** Long rows are dear for the naive one. */
    private int row(int n) {
        int row = below(n);
        return row > 2 && random.nextInt(3) != 0 ? 2 : row == 2 && random.nextBoolean() ? 1 : row;
    }

    private void tellTextNowAndThen() throws Exception {
        if (random.nextInt(2) == 0) {
            tellText();
        }
    }

    private void tellMap() throws Exception {
        int bone = aBone();
        int at = naive.of(bone, 0);
        call("map", bone, random.nextInt(5) == 0 ? -1 : random.nextInt(3) == 0 || at < 0 ? below(cells) : at);
        call("about", 60 + bone);
    }

    private void backNowAndThen() throws Exception {
        if (random.nextInt(2) == 0) {
            call("back");
            look();
        }
    }
}
