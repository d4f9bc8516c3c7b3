import java.util.ArrayList;
import java.util.Arrays;
import java.util.Comparator;
import java.util.HashSet;
import java.util.LinkedHashMap;
import java.util.List;
import java.util.Map;
import java.util.Set;
import java.util.TreeMap;
import java.util.TreeSet;
import java.util.function.Predicate;
import java.util.function.ToIntFunction;

/**
 * The document once more, written anew with the whole Java library and without any care for speed
 * or room, so that random runs of calls can be held against it.
 */
public final class NaiveFences {
    static final int NONE = -1;

    static final class Bone {
        int x, y, weight, lies;

        Bone(int x, int y, int weight) {
            this.x = x;
            this.y = y;
            this.weight = weight;
        }

        Bone copy() {
            Bone b = new Bone(x, y, weight);
            b.lies = lies;
            return b;
        }
    }

    record Wind(int dx, int dy, int strength, int chance) { }

    record Clause(String kind, ToIntFunction<Map<String, Integer>> sum, Predicate<Map<String, Integer>> either,
            int number, int x, int y) { }

    static final class State {
        int w, h, hour, ruling = NONE;
        List<Bone> bones = new ArrayList<>();
        Integer[] stakes = new Integer[6];
        int[] fines = new int[6];
        Set<Integer> wells = new TreeSet<>();
        Map<Integer, Integer> crops = new TreeMap<>();
        List<Wind> winds = new ArrayList<>();
        int[] plan = new int[40];
        Map<Integer, Integer> map = new TreeMap<>();
        List<List<Clause>> texts = new ArrayList<>();

        State copy() {
            State s = new State();
            s.w = w;
            s.h = h;
            s.hour = hour;
            s.ruling = ruling;
            for (Bone b : bones) {
                s.bones.add(b.copy());
            }
            s.stakes = stakes.clone();
            s.fines = fines.clone();
            s.wells.addAll(wells);
            s.crops.putAll(crops);
            s.winds.addAll(winds);
            s.plan = plan.clone();
            s.map.putAll(map);
            s.texts.addAll(texts);
            return s;
        }

        boolean inside(int x, int y) {
            return x >= 0 && y >= 0 && x < w && y < h;
        }

        boolean cellOk(int c) {
            return c >= 0 && c < w * h;
        }

        Bone boneAt(int x, int y) {
            for (Bone b : bones) {
                if (b.x == x && b.y == y) {
                    return b;
                }
            }
            return null;
        }

        boolean blocked(int x, int y) {
            return !inside(x, y) || boneAt(x, y) != null || Arrays.asList(stakes).contains(x + w * y);
        }

        Set<Integer> field(int c) {
            Set<Integer> found = new TreeSet<>();
            flood(c % w, c / w, found);
            return found;
        }

        void flood(int x, int y, Set<Integer> found) {
            if (!inside(x, y) || boneAt(x, y) != null || !found.add(x + w * y)) {
                return;
            }
            flood(x + 1, y, found);
            flood(x - 1, y, found);
            flood(x, y + 1, found);
            flood(x, y - 1, found);
        }

        Set<Integer> had(int f) {
            return stakes[f] == null ? Set.of() : field(stakes[f]);
        }

        int havers(Set<Integer> field) {
            int bits = 0;
            for (int f = 0; f < 6; f++) {
                if (stakes[f] != null && field.contains(stakes[f])) {
                    bits += 1 << f;
                }
            }
            return bits;
        }

        int area(int f) {
            Set<Integer> field = had(f);
            return field.isEmpty() ? 0 : field.size() / Integer.bitCount(havers(field));
        }

        Set<Set<Integer>> fields() {
            Set<Set<Integer>> all = new HashSet<>();
            for (int c = 0; c < w * h; c++) {
                Set<Integer> field = field(c);
                if (!field.isEmpty()) {
                    all.add(field);
                }
            }
            return all;
        }

        int disputed() {
            int n = 0;
            for (Set<Integer> field : fields()) {
                n += Integer.bitCount(havers(field)) >= 2 ? 1 : 0;
            }
            return n;
        }

        Map<String, Integer> names(Bone b) {
            Map<String, Integer> names = new LinkedHashMap<>();
            names.put("weight", b.weight);
            names.put("lies", b.lies);
            int beside = 0;
            for (Bone o : bones) {
                beside += Math.abs(o.x - b.x) + Math.abs(o.y - b.y) == 1 ? 1 : 0;
            }
            names.put("beside", beside);
            names.put("x", b.x);
            names.put("y", b.y);
            names.put("hour", hour % 24);
            return names;
        }

        Clause law(String kind) {
            if (ruling != NONE) {
                for (Clause c : texts.get(ruling)) {
                    if (c.kind.equals(kind)) {
                        return c;
                    }
                }
            }
            return null;
        }

        int hold(Bone b) {
            Clause hold = law("hold");
            return hold == null ? b.weight : hold.sum.applyAsInt(names(b));
        }

        int far(Bone b, int strength, int spare) {
            Clause far = law("far");
            if (far == null) {
                return 1 + spare / 20;
            }
            Map<String, Integer> names = names(b);
            names.put("strength", strength);
            names.put("spare", spare);
            return Math.max(0, Math.min(9, far.sum.applyAsInt(names)));
        }

        int blow(Wind wind) {
            List<Bone> order = new ArrayList<>(bones);
            Map<Bone, Integer> keys = new java.util.IdentityHashMap<>();
            for (Bone b : bones) {
                keys.put(b, b.x * wind.dx + b.y * wind.dy);
            }
            order.sort(Comparator.comparingInt((Bone b) -> -keys.get(b)));
            int went = 0;
            for (Bone b : order) {
                int spare = wind.strength - hold(b);
                int steps = 0;
                if (spare > 0 && (wind.dx != 0 || wind.dy != 0)) {
                    int far = far(b, wind.strength, spare);
                    while (steps < far && !blocked(b.x + wind.dx, b.y + wind.dy)) {
                        b.x += wind.dx;
                        b.y += wind.dy;
                        steps++;
                    }
                }
                crops.remove(b.x + w * b.y);
                b.lies = steps > 0 ? 0 : Math.min(99, b.lies + 1);
                went += steps > 0 ? 1 : 0;
            }
            hour++;
            return went;
        }

        int addBone(int x, int y, int weight) {
            if (blocked(x, y) || weight < 1 || weight > 99 || bones.size() == 24) {
                return NONE;
            }
            bones.add(new Bone(x, y, weight));
            crops.remove(x + w * y);
            return bones.size() - 1;
        }

        boolean addStake(int f, int x, int y) {
            if (f < 0 || f > 5 || !inside(x, y) || boneAt(x, y) != null) {
                return false;
            }
            stakes[f] = x + w * y;
            return true;
        }

        /** Sum over all rows of n winds of weight times what is asked of the state then. */
        long rows(int n, long weight, ToIntFunction<State> asked) {
            if (n == 0) {
                return weight * asked.applyAsInt(this);
            }
            long sum = 0;
            for (Wind wind : winds) {
                State s = copy();
                s.blow(wind);
                sum += s.rows(n - 1, weight * wind.chance, asked);
            }
            return sum;
        }

        int mean(int f, int n) {
            long all = rows(n, 1, s -> 1);
            return all == 0 ? 0 : (int) (rows(n, 1, s -> s.area(f)) * 1000 / all);
        }

        State planned(int n) {
            State s = copy();
            for (int k = 0; k < n; k++) {
                s.blow(s.winds.get(s.plan[k]));
            }
            return s;
        }
    }

    private State now = new State();
    private State image;
    private String tape = "";
    private int[] fault;

    public NaiveFences(int w, int h) {
        now.w = w < 3 ? 3 : w > 8 ? 8 : w;
        now.h = h < 3 ? 3 : h > 6 ? 6 : h;
        image = now.copy();
    }

    private int cx(int c) {
        return now.cellOk(c) ? c % now.w : -5;
    }

    private int cy(int c) {
        return now.cellOk(c) ? c / now.w : -5;
    }

    private boolean farmerOk(int f) {
        return f >= 0 && f < 6;
    }

    public int bone(int cell, int weight) {
        return now.addBone(cx(cell), cy(cell), weight);
    }

    public boolean stake(int farmer, int cell) {
        if (farmerOk(farmer) && cell == NONE) {
            now.stakes[farmer] = null;
            return true;
        }
        return now.addStake(farmer, cx(cell), cy(cell));
    }

    public boolean well(int cell, boolean is) {
        if (now.cellOk(cell)) {
            now.wells.remove(cell);
            if (is) {
                now.wells.add(cell);
            }
        }
        return now.cellOk(cell);
    }

    public int wind(int dx, int dy, int strength, int chance) {
        if (Math.abs((long) dx) > 1 || Math.abs((long) dy) > 1 || strength < 0 || strength > 99 || chance < 0
                || chance > 9 || now.winds.size() == 6) {
            return NONE;
        }
        now.winds.add(new Wind(dx, dy, strength, chance));
        return now.winds.size() - 1;
    }

    public boolean plan(int k, int wind) {
        if (k < 0 || k > 39 || wind < 0 || wind >= now.winds.size()) {
            return false;
        }
        now.plan[k] = wind;
        return true;
    }

    public int feed(int a, int b, int c, int d, int e) {
        if (tape.length() > 280) {
            return NONE;
        }
        for (int four : new int[] {a, b, c, d, e}) {
            for (int i = 3; i >= 0; i--) {
                tape += (char) (four >> 8 * i & 0xff);
            }
        }
        return tape.length();
    }

    public int end(int n) {
        if (n < 0 || n > tape.length()) {
            return NONE;
        }
        tape = tape.substring(0, n);
        return n;
    }

    public int text() {
        if (now.texts.size() == 4) {
            return NONE;
        }
        NaiveReader reader = new NaiveReader(tape);
        tape = "";
        List<Clause> clauses = reader.read();
        fault = new int[] {reader.fault, reader.place};
        if (clauses == null) {
            return NONE;
        }
        now.texts.add(clauses);
        return now.texts.size() - 1;
    }

    public int fault(int what) {
        return fault == null || what < 0 || what > 1 ? NONE : fault[what];
    }

    public boolean by(int text) {
        if (text < NONE || text >= now.texts.size()) {
            return false;
        }
        now.ruling = text;
        return true;
    }

    public int draw(int text) {
        if (text < 0 || text >= now.texts.size()) {
            return -2;
        }
        now.bones.clear();
        now.stakes = new Integer[6];
        now.crops.clear();
        int i = 0;
        for (Clause c : now.texts.get(text)) {
            if (c.kind.equals("bone") && now.addBone(c.x, c.y, c.number) == NONE) {
                return i;
            }
            if (c.kind.equals("stake") && !now.addStake(c.number, c.x, c.y)) {
                return i;
            }
            i++;
        }
        return NONE;
    }

    public int of(int bone, int what) {
        if (bone < 0 || bone >= now.bones.size() || what < 0 || what > 3) {
            return -10000000;
        }
        Bone b = now.bones.get(bone);
        return what == 0 ? b.x + now.w * b.y : what == 1 ? b.weight : what == 2 ? b.lies : now.hold(b);
    }

    public int cell(int cell, int what) {
        if (!now.cellOk(cell) || what < 0 || what > 4) {
            return -10;
        }
        Set<Integer> field = now.field(cell);
        return switch (what) {
            case 0 -> field.isEmpty() ? NONE : field.iterator().next();
            case 1 -> field.size();
            case 2 -> now.havers(field);
            case 3 -> now.crops.getOrDefault(cell, NONE);
            default -> now.wells.contains(cell) ? 1 : 0;
        };
    }

    public int farmer(int farmer, int what) {
        if (!farmerOk(farmer) || what < 0 || what > 5) {
            return -10;
        }
        Set<Integer> field = now.had(farmer);
        return switch (what) {
            case 0 -> now.area(farmer);
            case 1 -> field.isEmpty() || field.stream().anyMatch(this::atBorder) ? 0 : 1;
            case 2 -> (int) now.bones.stream().filter(b -> isGate(b, field)).count();
            case 3 -> now.fines[farmer];
            case 4 -> (int) field.stream().filter(now.wells::contains).count();
            default -> now.stakes[farmer] == null ? NONE : now.stakes[farmer];
        };
    }

    private boolean atBorder(int c) {
        int x = c % now.w;
        int y = c / now.w;
        return x == 0 || y == 0 || x == now.w - 1 || y == now.h - 1;
    }

    private boolean isGate(Bone b, Set<Integer> field) {
        boolean in = false;
        boolean out = false;
        int[][] sides = {{0, 1}, {1, 0}, {0, -1}, {-1, 0}};
        for (int[] s : sides) {
            int x = b.x + s[0];
            int y = b.y + s[1];
            if (now.inside(x, y) && now.boneAt(x, y) == null) {
                boolean mine = field.contains(x + now.w * y);
                in |= mine;
                out |= !mine;
            }
        }
        return in && out;
    }

    public int hour(int wind) {
        return wind < 0 || wind >= now.winds.size() || now.hour == 999 ? NONE : now.blow(now.winds.get(wind));
    }

    public boolean sow(int farmer, int cell) {
        if (!farmerOk(farmer) || !now.had(farmer).contains(cell)) {
            return false;
        }
        now.crops.put(cell, now.hour);
        return true;
    }

    public int reap(int farmer) {
        if (!farmerOk(farmer) || now.stakes[farmer] == null || now.havers(now.had(farmer)) != 1 << farmer) {
            return NONE;
        }
        Set<Integer> field = now.had(farmer);
        Clause law = now.law("crop");
        int sum = 0;
        for (int c : field) {
            if (now.crops.containsKey(c)) {
                int age = now.hour - now.crops.remove(c);
                int water = (int) field.stream().filter(now.wells::contains).count();
                sum += law == null ? Math.min(999, age) : Math.max(0, Math.min(999, law.sum.applyAsInt(
                        Map.of("age", age, "x", c % now.w, "y", c / now.w, "area", field.size(), "water", water))));
            }
        }
        return sum;
    }

    public int night(int farmer, int bone, int step) {
        if (!farmerOk(farmer) || bone < 0 || bone >= now.bones.size() || step < 0 || step > 3) {
            return NONE;
        }
        Bone b = now.bones.get(bone);
        int x = b.x + new int[] {0, 1, 0, -1}[step];
        int y = b.y + new int[] {-1, 0, 1, 0}[step];
        if (now.blocked(x, y)) {
            return NONE;
        }
        Map<String, Integer> names = now.names(b);
        names.put("many", now.fines[farmer]);
        if (now.ruling != NONE) {
            for (Clause c : now.texts.get(now.ruling)) {
                if (c.kind.equals("found") && c.either.test(names)) {
                    now.fines[farmer]++;
                    return 2;
                }
            }
        }
        b.x = x;
        b.y = y;
        b.lies = 0;
        now.crops.remove(x + now.w * y);
        return 1;
    }

    public int odds(int farmer, int cell, int n) {
        if (!farmerOk(farmer) || n < 0 || n > 4 || cell != NONE && !now.cellOk(cell)) {
            return NONE;
        }
        return (int) now.rows(n, 1, s -> cell == NONE || s.had(farmer).contains(cell) ? 1 : 0);
    }

    public int mean(int farmer, int n) {
        return farmerOk(farmer) && n >= 0 && n <= 4 ? now.mean(farmer, n) : NONE;
    }

    public int best(int farmer, int n, int what) {
        if (!farmerOk(farmer) || n < 0 || n > 2 || what < 0 || what > 2) {
            return NONE;
        }
        int most = now.mean(farmer, n);
        int answer = NONE;
        for (int bone = 0; bone < now.bones.size(); bone++) {
            for (int step = 0; step < 4; step++) {
                State s = now.copy();
                Bone b = s.bones.get(bone);
                int x = b.x + new int[] {0, 1, 0, -1}[step];
                int y = b.y + new int[] {-1, 0, 1, 0}[step];
                if (!s.blocked(x, y)) {
                    b.x = x;
                    b.y = y;
                    b.lies = 0;
                    int mean = s.mean(farmer, n);
                    if (mean > most) {
                        most = mean;
                        answer = new int[] {bone, step, mean}[what];
                    }
                }
            }
        }
        return answer;
    }

    public int time(int farmer, int cell, int r) {
        if (!farmerOk(farmer) || !now.cellOk(cell) || r < 1 || r > 20 || now.winds.isEmpty()) {
            return NONE;
        }
        for (int k = 0; k + r <= 40; k++) {
            if (now.planned(k).had(farmer).contains(cell) && now.planned(k + r).had(farmer).contains(cell)) {
                return k;
            }
        }
        return NONE;
    }

    public int keeps(int farmer, int cell, int bone, int n) {
        if (!farmerOk(farmer) || !now.cellOk(cell) || bone < 0 || bone >= now.bones.size() || n < 1 || n > 40
                || now.winds.isEmpty()) {
            return NONE;
        }
        for (int more = 0; now.bones.get(bone).weight + more <= 99; more++) {
            State s = now.copy();
            s.bones.get(bone).weight += more;
            boolean kept = true;
            for (int k = 0; k < n && kept; k++) {
                s.blow(s.winds.get(s.plan[k]));
                kept = s.had(farmer).contains(cell);
            }
            if (kept) {
                return more;
            }
        }
        return NONE;
    }

    public int calm() {
        if (now.winds.isEmpty()) {
            return NONE;
        }
        State s = now.copy();
        int k = 0;
        while (k < 40 && s.blow(s.winds.get(s.plan[k])) == 0) {
            k++;
        }
        return k;
    }

    public int disputes(int n) {
        if (n < 0 || n > 40 || n > 0 && now.winds.isEmpty()) {
            return NONE;
        }
        int sum = n == 0 ? now.disputed() : 0;
        for (int k = 1; k <= n; k++) {
            sum += now.planned(k).disputed();
        }
        return sum;
    }

    public boolean map(int bone, int cell) {
        if (bone < 0 || bone >= now.bones.size() || cell != NONE && !now.cellOk(cell)) {
            return false;
        }
        now.map.put(bone, cell);
        return true;
    }

    public int made() {
        int bits = 0;
        for (int i = 0; i < now.winds.size(); i++) {
            State s = now.copy();
            s.blow(s.winds.get(i));
            boolean like = true;
            for (int b = 0; b < s.bones.size(); b++) {
                int told = s.map.getOrDefault(b, NONE);
                like &= told == NONE || told == s.bones.get(b).x + s.w * s.bones.get(b).y;
            }
            bits += like ? 1 << i : 0;
        }
        return bits;
    }

    public int hours(int seed, int n) {
        List<Wind> lots = new ArrayList<>();
        for (Wind wind : now.winds) {
            for (int i = 0; i < wind.chance; i++) {
                lots.add(wind);
            }
        }
        if (seed < 0 || seed > 9999 || n < 1 || n > 40 || lots.isEmpty() || now.hour + n > 999) {
            return NONE;
        }
        long x = seed * 3L + 8;
        int went = 0;
        for (int i = 0; i < n; i++) {
            went += now.blow(lots.get((int) (x % lots.size())));
            x = (x * 179 + 41) % 30103;
        }
        return went;
    }

    public int image() {
        image = now.copy();
        return now.hour;
    }

    public int back() {
        now = image.copy();
        return now.hour;
    }

    public int about(int what) {
        if (what >= 10 && what < 50) {
            return now.plan[what - 10];
        }
        if (what >= 60 && what < 60 + now.bones.size()) {
            return now.map.getOrDefault(what - 60, NONE);
        }
        return switch (what) {
            case 0 -> now.w;
            case 1 -> now.h;
            case 2 -> now.hour;
            case 3 -> now.bones.size();
            case 4 -> now.winds.size();
            case 5 -> now.texts.size();
            case 6 -> now.ruling;
            case 7 -> now.fields().size();
            case 8 -> tape.length();
            case 9 -> now.crops.size();
            default -> -2;
        };
    }
}
