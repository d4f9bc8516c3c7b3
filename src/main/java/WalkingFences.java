import java.util.Arrays;

/**
 * A plain on which bones lie that winds move hour by hour, and the fields between them.
 * The document of the project numbers what each call promises.
 */
public final class WalkingFences {
    public static final int NONE = -1;

    private static final int MOST_BONES = 24;
    private static final int HEAVIEST = 99;
    private static final int LONGEST_LIE = 99;
    private static final int FARMERS = 6;
    private static final int MOST_WINDS = 6;
    private static final int STRONGEST = 99;
    private static final int MOST_CHANCE = 9;
    private static final int PLANNED = 40;
    private static final int LAST_HOUR = 999;
    private static final int MOST_BYTES = 300;
    private static final int MOST_TEXTS = 4;
    private static final int MOST_CLAUSES = 20;
    private static final int MOST_OPEN = 8;
    private static final int MOST_NUMBER = 9999;
    private static final int MOST_VALUE = 1000000;
    private static final int MOST_STEPS = 9;
    private static final int MOST_CROP = 999;
    private static final int MOST_ROW = 4;
    private static final int MOST_NIGHT_ROW = 2;
    private static final int MOST_WAIT = 20;
    private static final int MOST_SEED = 9999;
    private static final int FIRST_PLAN = 10;
    private static final int FIRST_MAP = 60;

    // The words of the texts, each with a blank behind it; a word's place in this row is its sign.
    // The names stand first, so that a name's sign is its place among the names' values.
    private static final String WORDS =
            "weight lies beside x y hour strength spare many age area water min max not and or at hold far crop found bone stake ";
    private static final int WEIGHT = 0;
    private static final int LIES = 1;
    private static final int BESIDE = 2;
    private static final int X = 3;
    private static final int Y = 4;
    private static final int HOUR = 5;
    private static final int STRENGTH = 6;
    private static final int SPARE = 7;
    private static final int MANY = 8;
    private static final int AGE = 9;
    private static final int AREA = 10;
    private static final int WATER = 11;
    private static final int NAMES = 12;
    private static final int MIN = 12;
    private static final int MAX = 13;
    private static final int NOT = 14;
    private static final int AND = 15;
    private static final int OR = 16;
    private static final int AT = 17;
    private static final int HOLD = 18;
    private static final int FAR = 19;
    private static final int CROP = 20;
    private static final int FOUND = 21;
    private static final int BONE = 22;
    private static final int STAKE = 23;

    // The other signs, those of one byte in the order of SIGNS.
    private static final String SIGNS = "<>=#+-*/(),;";
    private static final int LESS = 24;
    private static final int MORE = 25;
    private static final int LIKE = 26;
    private static final int UNLIKE = 27;
    private static final int PLUS = 28;
    private static final int MINUS = 29;
    private static final int TIMES = 30;
    private static final int BY = 31;
    private static final int OPEN = 32;
    private static final int CLOSE = 33;
    private static final int COMMA = 34;
    private static final int STOP = 35;
    private static final int LESS_OR_LIKE = 36;
    private static final int MORE_OR_LIKE = 37;
    private static final int NUMBER = 38;
    private static final int END = 39;
    private static final int NO_SIGN = 40;

    // What stands in the code of a law beside the signs above.
    private static final int NAME = 41;
    private static final int NEGATE = 42;
    private static final int SIGN_BITS = 6;

    private static final int CANNOT_STAND = 1;
    private static final int NOT_TOLD = 2;
    private static final int TOO_DEEP = 3;
    private static final int SECOND_TIME = 4;
    private static final int OTHER_NAME = 5;
    private static final int TOO_MANY = 6;

    private static final int NO_BONE = -10000000;
    private static final int NO_CELL = -10;
    private static final int NO_FARMER = -10;
    private static final int NO_TEXT = -2;
    private static final int NOTHING = -2;

    private final Ground ground;
    private final Plain now;
    private final Plain imagePlain;
    private final Told told = new Told();
    private final Told imageTold = new Told();
    private final Tape tape = new Tape();
    private final Reader reader = new Reader();
    private final Text[] texts = new Text[MOST_TEXTS];
    private final Reckoner reckoner = new Reckoner();
    private final Weather weather = new Weather(told, texts, reckoner);
    private final Outlook outlook;

    public WalkingFences(int w, int h) {
        ground = new Ground(Math.max(3, Math.min(8, w)), Math.max(3, Math.min(6, h)));
        now = new Plain(ground);
        imagePlain = new Plain(ground);
        outlook = new Outlook(now, told, weather);
    }

    public int bone(int cell, int weight) {
        return now.addBone(cell, weight);
    }

    public boolean stake(int farmer, int cell) {
        return now.setStake(farmer, cell);
    }

    public boolean well(int cell, boolean is) {
        if (!ground.holds(cell)) {
            return false;
        }
        long bit = 1L << cell;
        now.wells = is ? now.wells | bit : now.wells & ~bit;
        return true;
    }

    public int wind(int dx, int dy, int strength, int chance) {
        return told.addWind(dx, dy, strength, chance);
    }

    public boolean plan(int k, int wind) {
        if (k < 0 || k >= PLANNED || !told.isWind(wind)) {
            return false;
        }
        told.plan[k] = wind;
        return true;
    }

    public int feed(int a, int b, int c, int d, int e) {
        if (tape.length + 20 > MOST_BYTES) {
            return NONE;
        }
        tape.add(a);
        tape.add(b);
        tape.add(c);
        tape.add(d);
        tape.add(e);
        return tape.length;
    }

    public int end(int n) {
        if (n < 0 || n > tape.length) {
            return NONE;
        }
        tape.length = n;
        return n;
    }

    public int text() {
        int number = told.texts;
        if (number < 0 || number >= MOST_TEXTS) {
            return NONE;
        }
        if (texts[number] == null) {
            texts[number] = new Text();
        }
        reader.begin(tape, texts[number]);
        for (int i = 0; i <= MOST_CLAUSES && reader.goesOn(); i++) {
            reader.readClause();
        }
        tape.length = 0;
        if (reader.fault != 0) {
            return NONE;
        }
        told.texts++;
        return number;
    }

    public int fault(int what) {
        if (what == 0) {
            return reader.fault;
        }
        return what == 1 ? reader.place : NONE;
    }

    public boolean by(int text) {
        if (text != NONE && !told.isText(text)) {
            return false;
        }
        told.ruling = text;
        return true;
    }

    public int draw(int text) {
        if (!told.isText(text) || texts[text] == null) {
            return NO_TEXT;
        }
        now.clearOff();
        return now.drawnBy(texts[text]);
    }

    public int of(int bone, int what) {
        if (!now.isBone(bone)) {
            return NO_BONE;
        }
        switch (what) {
            case 0: return now.cells[bone];
            case 1: return now.weights[bone];
            case 2: return now.lies[bone];
            case 3: return reckoner.holdNow(now, bone, weather.law());
            default: return NO_BONE;
        }
    }

    public int cell(int cell, int what) {
        if (!ground.holds(cell)) {
            return NO_CELL;
        }
        long field = now.fieldAt(cell);
        switch (what) {
            case 0: return ground.lowest(field);
            case 1: return Long.bitCount(field);
            case 2: return now.holders(field);
            case 3: return now.crops[cell];
            case 4: return (now.wells >>> cell & 1L) != 0 ? 1 : 0;
            default: return NO_CELL;
        }
    }

    public int farmer(int farmer, int what) {
        if (!isFarmer(farmer)) {
            return NO_FARMER;
        }
        long field = now.fieldHad(farmer);
        switch (what) {
            case 0: return now.share(field);
            case 1: return field != 0 && (field & ground.border) == 0 ? 1 : 0;
            case 2: return now.gates(field);
            case 3: return now.fines[farmer];
            case 4: return Long.bitCount(field & now.wells);
            case 5: return now.stakes[farmer];
            default: return NO_FARMER;
        }
    }

    public int hour(int wind) {
        if (!told.isWind(wind) || now.hour >= LAST_HOUR) {
            return NONE;
        }
        return weather.blow(now, wind);
    }

    public boolean sow(int farmer, int cell) {
        if (!isFarmer(farmer) || !ground.holds(cell)) {
            return false;
        }
        if ((now.fieldHad(farmer) >>> cell & 1L) == 0) {
            return false;
        }
        now.crops[cell] = now.hour;
        return true;
    }

    public int reap(int farmer) {
        long field = isFarmer(farmer) ? now.fieldHad(farmer) : 0L;
        if (field == 0 || Integer.bitCount(now.holders(field)) > 1) {
            return NONE;
        }
        int all = 0;
        for (int cell = 0; cell < ground.cells; cell++) {
            if ((field >>> cell & 1L) != 0 && now.crops[cell] != NONE) {
                all += reckoner.harvest(now, cell, field, weather.law());
                now.crops[cell] = NONE;
            }
        }
        return all;
    }

    public int night(int farmer, int bone, int step) {
        if (!isFarmer(farmer)) {
            return NONE;
        }
        int cell = now.nightCell(bone, step);
        if (cell == NONE) {
            return NONE;
        }
        if (reckoner.isFound(now, bone, now.fines[farmer], weather.law())) {
            now.fines[farmer]++;
            return 2;
        }
        now.shift(bone, cell);
        return 1;
    }

    public int odds(int farmer, int cell, int n) {
        if (!isFarmer(farmer) || n < 0 || n > MOST_ROW) {
            return NONE;
        }
        if (cell == NONE) {
            return (int) told.allWeight(n);
        }
        return ground.holds(cell) ? (int) outlook.weightHad(farmer, cell, n) : NONE;
    }

    public int mean(int farmer, int n) {
        if (!isFarmer(farmer) || n < 0 || n > MOST_ROW) {
            return NONE;
        }
        return outlook.meanNow(farmer, n);
    }

    public int best(int farmer, int n, int what) {
        if (!isFarmer(farmer) || n < 0 || n > MOST_NIGHT_ROW || what < 0 || what > 2) {
            return NONE;
        }
        outlook.seekNight(farmer, n);
        if (outlook.bestBone == NONE) {
            return NONE;
        }
        if (what == 0) {
            return outlook.bestBone;
        }
        return what == 1 ? outlook.bestStep : outlook.bestMean;
    }

    public int time(int farmer, int cell, int r) {
        if (!isFarmer(farmer) || !ground.holds(cell) || r < 1 || r > MOST_WAIT || told.winds == 0) {
            return NONE;
        }
        return outlook.firstSowing(farmer, cell, r);
    }

    public int keeps(int farmer, int cell, int bone, int n) {
        if (!isFarmer(farmer) || !ground.holds(cell) || !now.isBone(bone)) {
            return NONE;
        }
        if (n < 1 || n > PLANNED || told.winds == 0) {
            return NONE;
        }
        return outlook.leastMore(farmer, cell, bone, n);
    }

    public int calm() {
        return told.winds == 0 ? NONE : outlook.calmHours();
    }

    public int disputes(int n) {
        if (n < 0 || n > PLANNED) {
            return NONE;
        }
        if (n == 0) {
            return now.disputed();
        }
        return told.winds == 0 ? NONE : outlook.disputedBehind(n);
    }

    public boolean map(int bone, int cell) {
        if (!now.isBone(bone) || cell != NONE && !ground.holds(cell)) {
            return false;
        }
        told.map[bone] = cell;
        return true;
    }

    public int made() {
        return outlook.makers();
    }

    public int hours(int seed, int n) {
        int chances = told.allChances();
        if (seed < 0 || seed > MOST_SEED || n < 1 || n > PLANNED || chances <= 0 || now.hour + n > LAST_HOUR) {
            return NONE;
        }
        int drawn = seed * 3 + 8;
        int went = 0;
        for (int i = 0; i < n; i++) {
            went += weather.blow(now, told.windAt(drawn % chances));
            drawn = (drawn * 179 + 41) % 30103;
        }
        return went;
    }

    public int image() {
        imagePlain.copyFrom(now);
        imageTold.copyFrom(told);
        return now.hour;
    }

    public int back() {
        now.copyFrom(imagePlain);
        told.copyFrom(imageTold);
        return now.hour;
    }

    public int about(int what) {
        if (what >= FIRST_PLAN && what < FIRST_PLAN + PLANNED) {
            return told.plan[what - FIRST_PLAN];
        }
        if (what >= FIRST_MAP && what < FIRST_MAP + MOST_BONES && now.isBone(what - FIRST_MAP)) {
            return told.map[what - FIRST_MAP];
        }
        switch (what) {
            case 0: return ground.width;
            case 1: return ground.height;
            case 2: return now.hour;
            case 3: return now.count;
            case 4: return told.winds;
            case 5: return told.texts;
            case 6: return told.ruling;
            case 7: return now.fields();
            case 8: return tape.length;
            case 9: return now.sown();
            default: return NOTHING;
        }
    }

    private static boolean isFarmer(int farmer) {
        return farmer >= 0 && farmer < FARMERS;
    }

    /** The cells and how they lie to one another. A set of cells is the bits of a long. */
    private static final class Ground {
        final int width;
        final int height;
        final int cells;
        final long all;
        final long border;
        final long[] sides;
        private final long west;
        private final long east;

        Ground(int width, int height) {
            this.width = width;
            this.height = height;
            cells = width * height;
            all = (1L << cells) - 1;
            long firsts = 0;
            for (int y = 0; y < height; y++) {
                firsts |= 1L << y * width;
            }
            west = firsts;
            east = firsts << width - 1;
            long row = (1L << width) - 1;
            border = west | east | row | row << cells - width;
            sides = new long[cells];
            for (int cell = 0; cell < cells; cell++) {
                sides[cell] = sidesOf(1L << cell);
            }
        }

        boolean holds(int cell) {
            return cell >= 0 && cell < cells;
        }

        int cellAt(int x, int y) {
            return x >= 0 && x < width && y >= 0 && y < height ? x + width * y : NONE;
        }

        int cellBeside(int cell, int dx, int dy) {
            return cellAt(cell % width + dx, cell / width + dy);
        }

        private long sidesOf(long set) {
            long across = (set & ~east) << 1 | (set & ~west) >>> 1;
            return (across | set << width | set >>> width) & all;
        }

        /** All cells of the free ones that hang together with the start. */
        long spread(long start, long free) {
            long field = start & free;
            for (int i = 0; i < cells; i++) {
                long wider = field | sidesOf(field) & free;
                if (wider == field) {
                    return field;
                }
                field = wider;
            }
            return field;
        }

        int lowest(long set) {
            return set == 0 ? NONE : Long.bitCount((set & -set) - 1);
        }
    }

    /** What lies on the plain, and its hour. */
    private static final class Plain {
        final Ground ground;
        final int[] cells = new int[MOST_BONES];
        final int[] weights = new int[MOST_BONES];
        final int[] lies = new int[MOST_BONES];
        final int[] stakes = new int[FARMERS];
        final int[] fines = new int[FARMERS];
        final int[] crops;
        int count;
        int hour;
        long wells;
        long boned;
        private long staked;

        Plain(Ground ground) {
            this.ground = ground;
            crops = new int[ground.cells];
            Arrays.fill(crops, NONE);
            Arrays.fill(stakes, NONE);
        }

        void copyFrom(Plain other) {
            System.arraycopy(other.cells, 0, cells, 0, MOST_BONES);
            System.arraycopy(other.weights, 0, weights, 0, MOST_BONES);
            System.arraycopy(other.lies, 0, lies, 0, MOST_BONES);
            System.arraycopy(other.stakes, 0, stakes, 0, FARMERS);
            System.arraycopy(other.fines, 0, fines, 0, FARMERS);
            System.arraycopy(other.crops, 0, crops, 0, Math.min(crops.length, other.crops.length));
            count = other.count;
            hour = other.hour;
            wells = other.wells;
            boned = other.boned;
            staked = other.staked;
        }

        boolean isBone(int bone) {
            return bone >= 0 && bone < count;
        }

        boolean isOpen(int cell) {
            return ground.holds(cell) && ((boned | staked) >>> cell & 1L) == 0;
        }

        int addBone(int cell, int weight) {
            if (weight < 1 || weight > HEAVIEST || count >= MOST_BONES || !isOpen(cell)) {
                return NONE;
            }
            int bone = count;
            count++;
            cells[bone] = cell;
            weights[bone] = weight;
            lies[bone] = 0;
            boned |= 1L << cell;
            crops[cell] = NONE;
            return bone;
        }

        boolean setStake(int farmer, int cell) {
            if (!isFarmer(farmer)) {
                return false;
            }
            if (cell != NONE && (!ground.holds(cell) || (boned >>> cell & 1L) != 0)) {
                return false;
            }
            stakes[farmer] = cell;
            // Two stakes may stand in one cell, so one that goes doesn't free its cell by itself.
            staked = 0;
            for (int f = 0; f < FARMERS; f++) {
                staked |= stakes[f] == NONE ? 0L : 1L << stakes[f];
            }
            return true;
        }

        void clearOff() {
            count = 0;
            boned = 0;
            staked = 0;
            Arrays.fill(stakes, NONE);
            Arrays.fill(crops, NONE);
        }

        /** Lays what the text tells: the number of the clause that can't be, or NONE. */
        int drawnBy(Text text) {
            for (int i = 0; i < text.clauses && i < MOST_CLAUSES; i++) {
                int kind = text.kinds[i];
                if (kind == BONE || kind == STAKE) {
                    int cell = ground.cellAt(text.second[i], text.third[i]);
                    boolean can = kind == BONE ? addBone(cell, text.first[i]) != NONE
                            : cell != NONE && setStake(text.first[i], cell);
                    if (!can) {
                        return i;
                    }
                }
            }
            return NONE;
        }

        /** Where a step by night would bring a bone; NONE: it can't be moved so. */
        int nightCell(int bone, int step) {
            if (!isBone(bone) || step < 0 || step > 3) {
                return NONE;
            }
            int dx = step == 1 ? 1 : step == 3 ? -1 : 0;
            int dy = step == 2 ? 1 : step == 0 ? -1 : 0;
            int cell = ground.cellBeside(cells[bone], dx, dy);
            return isOpen(cell) ? cell : NONE;
        }

        void shift(int bone, int cell) {
            boned = boned & ~(1L << cells[bone]) | 1L << cell;
            cells[bone] = cell;
            lies[bone] = 0;
            crops[cell] = NONE;
        }

        /** The field of a cell; empty where a bone lies. */
        long fieldAt(int cell) {
            return ground.spread(1L << cell, ~boned);
        }

        /** The field that a farmer has; empty without a stake. */
        long fieldHad(int farmer) {
            return stakes[farmer] == NONE ? 0L : ground.spread(1L << stakes[farmer], ~boned);
        }

        boolean isHad(int farmer, int cell) {
            return (fieldHad(farmer) >>> cell & 1L) != 0;
        }

        int holders(long field) {
            int bits = 0;
            for (int f = 0; f < FARMERS; f++) {
                if (stakes[f] != NONE && (field >>> stakes[f] & 1L) != 0) {
                    bits |= 1 << f;
                }
            }
            return bits;
        }

        /** The area of one of those who have the field. */
        int share(long field) {
            int many = Integer.bitCount(holders(field));
            return many == 0 ? 0 : Long.bitCount(field) / many;
        }

        int gates(long field) {
            long others = ~boned & ~field;
            int gates = 0;
            for (int bone = 0; bone < count; bone++) {
                long sides = ground.sides[cells[bone]];
                if ((sides & field) != 0 && (sides & others) != 0) {
                    gates++;
                }
            }
            return gates;
        }

        int fields() {
            long rest = ~boned & ground.all;
            int fields = 0;
            for (int i = 0; i < ground.cells && rest != 0; i++) {
                rest &= ~ground.spread(rest & -rest, rest);
                fields++;
            }
            return fields;
        }

        int disputed() {
            int disputed = 0;
            for (int f = 0; f < FARMERS; f++) {
                int bits = holders(fieldHad(f));
                // Each field is counted with the lowest of those who have it.
                if (Integer.bitCount(bits) > 1 && (bits & -bits) == 1 << f) {
                    disputed++;
                }
            }
            return disputed;
        }

        int sown() {
            int sown = 0;
            for (int cell = 0; cell < crops.length; cell++) {
                sown += crops[cell] == NONE ? 0 : 1;
            }
            return sown;
        }
    }

    /** What is told beside the plain: winds, their plan, the map, how many texts, which rules. */
    private static final class Told {
        final int[] dx = new int[MOST_WINDS];
        final int[] dy = new int[MOST_WINDS];
        final int[] strengths = new int[MOST_WINDS];
        final int[] chances = new int[MOST_WINDS];
        final int[] plan = new int[PLANNED];
        final int[] map = new int[MOST_BONES];
        int winds;
        // Texts are only added between an image and the way back, so their count is their image.
        int texts;
        int ruling = NONE;

        Told() {
            Arrays.fill(map, NONE);
        }

        void copyFrom(Told other) {
            System.arraycopy(other.dx, 0, dx, 0, MOST_WINDS);
            System.arraycopy(other.dy, 0, dy, 0, MOST_WINDS);
            System.arraycopy(other.strengths, 0, strengths, 0, MOST_WINDS);
            System.arraycopy(other.chances, 0, chances, 0, MOST_WINDS);
            System.arraycopy(other.plan, 0, plan, 0, PLANNED);
            System.arraycopy(other.map, 0, map, 0, MOST_BONES);
            winds = other.winds;
            texts = other.texts;
            ruling = other.ruling;
        }

        boolean isWind(int wind) {
            return wind >= 0 && wind < winds;
        }

        boolean isText(int text) {
            return text >= 0 && text < texts;
        }

        int addWind(int dx, int dy, int strength, int chance) {
            if (dx < -1 || dx > 1 || dy < -1 || dy > 1 || winds >= MOST_WINDS) {
                return NONE;
            }
            if (strength < 0 || strength > STRONGEST || chance < 0 || chance > MOST_CHANCE) {
                return NONE;
            }
            int wind = winds;
            winds++;
            this.dx[wind] = dx;
            this.dy[wind] = dy;
            strengths[wind] = strength;
            chances[wind] = chance;
            return wind;
        }

        int allChances() {
            int all = 0;
            for (int wind = 0; wind < winds; wind++) {
                all += chances[wind];
            }
            return all;
        }

        /** The weight of all rows of so many winds together. */
        long allWeight(int row) {
            long weight = 1;
            for (int i = 0; i < row; i++) {
                weight *= allChances();
            }
            return weight;
        }

        /** The wind into whose chances a draw below all chances falls. */
        int windAt(int drawn) {
            int before = 0;
            for (int wind = 0; wind < winds; wind++) {
                before += chances[wind];
                if (drawn < before) {
                    return wind;
                }
            }
            return 0;
        }
    }

    /** The bytes that wait to be a text. */
    private static final class Tape {
        final int[] bytes = new int[MOST_BYTES];
        int length;

        void add(int four) {
            for (int shift = 24; shift >= 0 && length < MOST_BYTES; shift -= 8) {
                bytes[length] = four >>> shift & 255;
                length++;
            }
        }
    }

    /** A text that has been read: its clauses, and the code of its laws, what is worked on first. */
    private static final class Text {
        final int[] kinds = new int[MOST_CLAUSES];
        // Of a law where its code begins and ends; of a bone or a stake its number, x and y.
        final int[] first = new int[MOST_CLAUSES];
        final int[] second = new int[MOST_CLAUSES];
        final int[] third = new int[MOST_CLAUSES];
        final int[] code = new int[MOST_BYTES];
        int clauses;
        int size;
        int hold;
        int far;
        int crop;

        void empty() {
            clauses = 0;
            size = 0;
            hold = NONE;
            far = NONE;
            crop = NONE;
        }

        /** Each sign of code comes from a token of its own, so that all of them have room. */
        void put(int sign, int value) {
            if (size < MOST_BYTES) {
                code[size] = value << SIGN_BITS | sign;
                size++;
            }
        }

        boolean has(int law) {
            return law == HOLD && hold != NONE || law == FAR && far != NONE || law == CROP && crop != NONE;
        }

        /** A clause of which no more than its kind is known. */
        int addClause(int kind) {
            if (clauses >= MOST_CLAUSES) {
                return NONE;
            }
            int clause = clauses;
            clauses++;
            kinds[clause] = kind;
            if (kind == HOLD) {
                hold = clause;
            } else if (kind == FAR) {
                far = clause;
            } else if (kind == CROP) {
                crop = clause;
            }
            return clause;
        }
    }

    /** Cuts a tape into tokens. */
    private static final class Cutter {
        final int[] signs = new int[MOST_BYTES + 1];
        final int[] places = new int[MOST_BYTES + 1];
        final int[] values = new int[MOST_BYTES + 1];
        private int count;

        void cut(Tape tape) {
            count = 0;
            int at = 0;
            for (int i = 0; i < MOST_BYTES && at < tape.length; i++) {
                int b = tape.bytes[at];
                if (b == 32 || b == 10) {
                    at++;
                } else if (isLetter(b)) {
                    at = cutWord(tape, at);
                } else if (isDigit(b)) {
                    at = cutNumber(tape, at);
                } else {
                    at = cutSign(tape, at);
                }
            }
            add(END, tape.length, 0);
        }

        private void add(int sign, int place, int value) {
            if (count < signs.length) {
                signs[count] = sign;
                places[count] = place;
                values[count] = value;
                count++;
            }
        }

        private int cutWord(Tape tape, int from) {
            int to = from;
            while (to < tape.length && isLetter(tape.bytes[to])) {
                to++;
            }
            add(wordOf(tape, from, to), from, 0);
            return to;
        }

        private int cutNumber(Tape tape, int from) {
            int value = 0;
            int to = from;
            while (to < tape.length && isDigit(tape.bytes[to])) {
                value = Math.min(value * 10 + tape.bytes[to] - '0', MOST_NUMBER + 1);
                to++;
            }
            add(NUMBER, from, value);
            return to;
        }

        private int cutSign(Tape tape, int from) {
            int sign = NO_SIGN;
            for (int i = 0; i < SIGNS.length(); i++) {
                if (SIGNS.charAt(i) == tape.bytes[from]) {
                    sign = LESS + i;
                }
            }
            int to = from + 1;
            if ((sign == LESS || sign == MORE) && to < tape.length && tape.bytes[to] == '=') {
                sign = sign == LESS ? LESS_OR_LIKE : MORE_OR_LIKE;
                to++;
            }
            add(sign, from, 0);
            return to;
        }

        private static int wordOf(Tape tape, int from, int to) {
            int word = 0;
            int like = from;
            for (int i = 0; i < WORDS.length(); i++) {
                char c = WORDS.charAt(i);
                if (c == ' ') {
                    if (like == to) {
                        return word;
                    }
                    word++;
                    like = from;
                } else if (like != NONE) {
                    like = like < to && tape.bytes[like] == c ? like + 1 : NONE;
                }
            }
            return NO_SIGN;
        }

        private static boolean isLetter(int b) {
            return b >= 'a' && b <= 'z' || b >= 'A' && b <= 'Z';
        }

        private static boolean isDigit(int b) {
            return b >= '0' && b <= '9';
        }
    }

    /** Reads a tape into a text, and knows the fault of the latest one. */
    private static final class Reader {
        // Ahead of any text there is neither a fault nor none.
        int fault = NONE;
        int place = NONE;
        private final Cutter cutter = new Cutter();
        private Text text;
        private int at;
        private int sign;
        private int names;

        void begin(Tape tape, Text into) {
            fault = 0;
            place = NONE;
            text = into;
            text.empty();
            cutter.cut(tape);
            at = 0;
            sign = cutter.signs[0];
        }

        boolean goesOn() {
            return sign != END;
        }

        /** With a fault the reader stands at the end, where no more is read. */
        private void complain(int what) {
            if (fault == 0) {
                fault = what;
                place = cutter.places[at];
                sign = END;
            }
        }

        private void advance() {
            if (fault == 0 && sign != END && at + 1 < cutter.signs.length) {
                at++;
                sign = cutter.signs[at];
            }
        }

        private void expect(int wanted) {
            if (sign == wanted) {
                advance();
            } else {
                complain(CANNOT_STAND);
            }
        }

        void readClause() {
            int kind = sign;
            if (kind < HOLD || kind > STAKE) {
                complain(CANNOT_STAND);
            } else if (text.has(kind)) {
                complain(SECOND_TIME);
            } else if (text.clauses >= MOST_CLAUSES) {
                complain(TOO_MANY);
            }
            int clause = fault == 0 ? text.addClause(kind) : NONE;
            if (clause == NONE) {
                return;
            }
            advance();
            names = namesOf(kind);
            text.first[clause] = text.size;
            if (kind == BONE || kind == STAKE) {
                readPlace(clause, kind);
            } else if (kind == FOUND) {
                readEither();
            } else {
                readSum(0);
            }
            if (kind != BONE && kind != STAKE) {
                text.second[clause] = text.size;
            }
            expect(STOP);
        }

        private void readPlace(int clause, int kind) {
            text.first[clause] = kind == BONE ? readNumber(1, HEAVIEST) : readNumber(0, FARMERS - 1);
            expect(AT);
            text.second[clause] = readNumber(0, 7);
            expect(COMMA);
            text.third[clause] = readNumber(0, 5);
        }

        private int readNumber(int least, int most) {
            int value = cutter.values[at];
            if (sign != NUMBER) {
                complain(CANNOT_STAND);
            } else if (value < least || value > most) {
                complain(NOT_TOLD);
            }
            advance();
            return value;
        }

        private static int namesOf(int kind) {
            if (kind == CROP) {
                return 1 << AGE | 1 << X | 1 << Y | 1 << AREA | 1 << WATER;
            }
            int bones = 1 << WEIGHT | 1 << LIES | 1 << BESIDE | 1 << X | 1 << Y | 1 << HOUR;
            if (kind == FAR) {
                return bones | 1 << STRENGTH | 1 << SPARE;
            }
            return kind == FOUND ? bones | 1 << MANY : bones;
        }

        /** An 'or' waits until the 'and's behind it are done. */
        private void readEither() {
            boolean waits = false;
            readAsk();
            for (int i = 0; i < MOST_BYTES && (sign == AND || sign == OR); i++) {
                boolean both = sign == AND;
                if (!both && waits) {
                    text.put(OR, 0);
                }
                waits = waits || !both;
                advance();
                readAsk();
                if (both) {
                    text.put(AND, 0);
                }
            }
            if (waits) {
                text.put(OR, 0);
            }
        }

        private void readAsk() {
            int nots = 0;
            while (nots < MOST_OPEN && sign == NOT) {
                nots++;
                advance();
            }
            if (sign == NOT) {
                complain(TOO_DEEP);
            }
            readSum(nots);
            int asked = sign;
            if (asked >= LESS && asked <= UNLIKE || asked == LESS_OR_LIKE || asked == MORE_OR_LIKE) {
                advance();
            } else {
                complain(CANNOT_STAND);
            }
            readSum(nots);
            text.put(asked, 0);
            for (int i = 0; i < nots; i++) {
                text.put(NOT, 0);
            }
        }

        /** A + or - waits until the * and / behind it are done. */
        private void readSum(int open) {
            int waits = NONE;
            readOne(open);
            for (int i = 0; i < MOST_BYTES && sign >= PLUS && sign <= BY; i++) {
                int step = sign;
                boolean product = step == TIMES || step == BY;
                if (!product && waits != NONE) {
                    text.put(waits, 0);
                }
                waits = product ? waits : step;
                advance();
                readOne(open);
                if (product) {
                    text.put(step, 0);
                }
            }
            if (waits != NONE) {
                text.put(waits, 0);
            }
        }

        private void readOne(int around) {
            int open = around;
            while (open < MOST_OPEN && sign == MINUS) {
                open++;
                advance();
            }
            int kind = sign;
            if (kind == NUMBER) {
                text.put(NUMBER, readNumber(0, MOST_NUMBER));
            } else if (kind < NAMES) {
                readName();
            } else if (kind == OPEN || kind == MIN || kind == MAX) {
                if (kind != OPEN) {
                    advance();
                }
                if (isOpened(open)) {
                    readSum(open + 1);
                    if (kind != OPEN) {
                        expect(COMMA);
                        readSum(open + 1);
                        text.put(kind, 0);
                    }
                    expect(CLOSE);
                }
            } else {
                complain(kind == MINUS ? TOO_DEEP : CANNOT_STAND);
            }
            for (int i = around; i < open; i++) {
                text.put(NEGATE, 0);
            }
        }

        private void readName() {
            if ((names >>> sign & 1) == 0) {
                complain(OTHER_NAME);
            } else {
                text.put(NAME, sign);
                advance();
            }
        }

        private boolean isOpened(int open) {
            if (sign != OPEN) {
                complain(CANNOT_STAND);
            } else if (open >= MOST_OPEN) {
                complain(TOO_DEEP);
            } else {
                advance();
            }
            return fault == 0;
        }
    }

    /** Works out what the laws of a text say. Without a text its law is null. */
    private static final class Reckoner {
        // Of what may be open around one another each holds three values back at most.
        private static final int ROOM = 64;
        private final int[] names = new int[NAMES];
        private final int[] stack = new int[ROOM];

        int holdNow(Plain plain, int bone, Text law) {
            if (law == null || law.hold == NONE) {
                return plain.weights[bone];
            }
            nameBone(plain, bone);
            return value(law, law.hold);
        }

        /** How many steps a wind lets a bone go at most. */
        int stepsBy(Plain plain, int bone, int strength, Text law) {
            boolean holds = law != null && law.hold != NONE;
            boolean limits = law != null && law.far != NONE;
            if (holds || limits) {
                nameBone(plain, bone);
            }
            int spare = strength - (holds ? value(law, law.hold) : plain.weights[bone]);
            if (spare <= 0) {
                return 0;
            }
            if (!limits) {
                return Math.min(MOST_STEPS, 1 + spare / 20);
            }
            names[STRENGTH] = strength;
            // By a hold far below 0 this is above MOST_VALUE: only a step of a law is cut, not a name.
            names[SPARE] = spare;
            return Math.max(0, Math.min(MOST_STEPS, value(law, law.far)));
        }

        boolean isFound(Plain plain, int bone, int fines, Text law) {
            if (law == null) {
                return false;
            }
            nameBone(plain, bone);
            names[MANY] = fines;
            for (int i = 0; i < law.clauses && i < MOST_CLAUSES; i++) {
                if (law.kinds[i] == FOUND && value(law, i) != 0) {
                    return true;
                }
            }
            return false;
        }

        int harvest(Plain plain, int cell, long field, Text law) {
            int age = plain.hour - plain.crops[cell];
            if (law == null || law.crop == NONE) {
                return Math.min(MOST_CROP, age);
            }
            names[AGE] = age;
            names[X] = cell % plain.ground.width;
            names[Y] = cell / plain.ground.width;
            names[AREA] = Long.bitCount(field);
            names[WATER] = Long.bitCount(field & plain.wells);
            return Math.max(0, Math.min(MOST_CROP, value(law, law.crop)));
        }

        private void nameBone(Plain plain, int bone) {
            int cell = plain.cells[bone];
            names[WEIGHT] = plain.weights[bone];
            names[LIES] = plain.lies[bone];
            names[BESIDE] = Long.bitCount(plain.ground.sides[cell] & plain.boned);
            names[X] = cell % plain.ground.width;
            names[Y] = cell / plain.ground.width;
            names[HOUR] = plain.hour % 24;
        }

        private int value(Text law, int clause) {
            int top = 0;
            int end = Math.min(law.size, law.second[clause]);
            for (int i = law.first[clause]; i < end; i++) {
                int sign = law.code[i] & (1 << SIGN_BITS) - 1;
                int told = law.code[i] >>> SIGN_BITS;
                if (sign == NUMBER || sign == NAME) {
                    if (top < ROOM) {
                        stack[top] = sign == NUMBER ? told : told < NAMES ? names[told] : 0;
                        top++;
                    }
                } else if (sign == NEGATE || sign == NOT) {
                    if (top >= 1) {
                        stack[top - 1] = sign == NEGATE ? -stack[top - 1] : 1 - stack[top - 1];
                    }
                } else if (top >= 2) {
                    top--;
                    stack[top - 1] = isStep(sign) ? cut(stepped(sign, stack[top - 1], stack[top]))
                            : joined(sign, stack[top - 1], stack[top]);
                }
            }
            return top > 0 ? stack[0] : 0;
        }

        private static boolean isStep(int sign) {
            return sign >= PLUS && sign <= BY;
        }

        private static int cut(long value) {
            return (int) Math.max(-MOST_VALUE, Math.min(MOST_VALUE, value));
        }

        private static long stepped(int sign, long a, long b) {
            switch (sign) {
                case PLUS: return a + b;
                case MINUS: return a - b;
                case TIMES: return a * b;
                default: return b == 0 ? 0 : a / b;
            }
        }

        private static int joined(int sign, int a, int b) {
            switch (sign) {
                case MIN: return Math.min(a, b);
                case MAX: return Math.max(a, b);
                case LESS: return a < b ? 1 : 0;
                case LESS_OR_LIKE: return a <= b ? 1 : 0;
                case MORE: return a > b ? 1 : 0;
                case MORE_OR_LIKE: return a >= b ? 1 : 0;
                case LIKE: return a == b ? 1 : 0;
                case UNLIKE: return a != b ? 1 : 0;
                case AND: return a & b;
                case OR: return a | b;
                default: return 0;
            }
        }
    }

    /** Lets winds blow over a plain, by the text that rules. */
    private static final class Weather {
        // x dx + y dy lies from -12 to 12.
        private static final int FOREMOST = 12;
        private final Told told;
        private final Text[] texts;
        private final Reckoner reckoner;
        private final int[] ranks = new int[MOST_BONES];
        private final int[] starts = new int[2 * FOREMOST + 2];
        private final int[] order = new int[MOST_BONES];

        Weather(Told told, Text[] texts, Reckoner reckoner) {
            this.told = told;
            this.texts = texts;
            this.reckoner = reckoner;
        }

        Text law() {
            return told.isText(told.ruling) && told.ruling < texts.length ? texts[told.ruling] : null;
        }

        /** One hour by a wind that is told: how many bones went. */
        int blow(Plain plain, int wind) {
            int dx = told.dx[wind];
            int dy = told.dy[wind];
            boolean still = dx == 0 && dy == 0;
            Text law = law();
            int went = 0;
            putInOrder(plain, dx, dy);
            for (int i = 0; i < plain.count; i++) {
                int bone = order[i];
                int from = plain.cells[bone];
                // The laws are dear and change nothing: a bone that is shut in needs none.
                boolean shut = still || !plain.isOpen(plain.ground.cellBeside(from, dx, dy));
                int steps = shut ? 0 : reckoner.stepsBy(plain, bone, told.strengths[wind], law);
                int cell = reached(plain, from, steps, dx, dy);
                if (cell != from) {
                    plain.shift(bone, cell);
                    went++;
                } else {
                    plain.lies[bone] = Math.min(LONGEST_LIE, plain.lies[bone] + 1);
                }
            }
            plain.hour++;
            return went;
        }

        private static int reached(Plain plain, int from, int steps, int dx, int dy) {
            int cell = from;
            for (int i = 0; i < steps; i++) {
                int next = plain.ground.cellBeside(cell, dx, dy);
                if (!plain.isOpen(next)) {
                    return cell;
                }
                cell = next;
            }
            return cell;
        }

        /** The foremost bones first, by counting how many are of each rank. */
        private void putInOrder(Plain plain, int dx, int dy) {
            int width = plain.ground.width;
            Arrays.fill(starts, 0);
            for (int bone = 0; bone < plain.count; bone++) {
                int cell = plain.cells[bone];
                int rank = FOREMOST - cell % width * dx - cell / width * dy;
                ranks[bone] = rank;
                starts[rank + 1]++;
            }
            for (int rank = 1; rank < starts.length; rank++) {
                starts[rank] += starts[rank - 1];
            }
            for (int bone = 0; bone < plain.count; bone++) {
                order[starts[ranks[bone]]] = bone;
                starts[ranks[bone]]++;
            }
        }
    }

    /** What is tried, on plains of its own. */
    private static final class Outlook {
        int bestBone;
        int bestStep;
        int bestMean;
        private final Plain now;
        private final Told told;
        private final Weather weather;
        private final Plain[] tried = new Plain[MOST_ROW + 1];
        private int farmer;
        private int cell;
        private long had;
        private long areas;

        Outlook(Plain now, Told told, Weather weather) {
            this.now = now;
            this.told = told;
            this.weather = weather;
            for (int i = 0; i <= MOST_ROW; i++) {
                tried[i] = new Plain(now.ground);
            }
        }

        long weightHad(int farmer, int cell, int n) {
            tried[0].copyFrom(now);
            aim(farmer, cell);
            gather(0, n, 1);
            return had;
        }

        int meanNow(int farmer, int n) {
            tried[0].copyFrom(now);
            return meanOfTried(farmer, n);
        }

        void seekNight(int farmer, int n) {
            bestBone = NONE;
            bestStep = NONE;
            tried[0].copyFrom(now);
            bestMean = meanOfTried(farmer, n);
            for (int bone = 0; bone < now.count; bone++) {
                for (int step = 0; step < 4; step++) {
                    int to = now.nightCell(bone, step);
                    if (to != NONE) {
                        tried[0].copyFrom(now);
                        tried[0].shift(bone, to);
                        keepIfBetter(bone, step, meanOfTried(farmer, n));
                    }
                }
            }
        }

        private void keepIfBetter(int bone, int step, int mean) {
            if (mean > bestMean) {
                bestBone = bone;
                bestStep = step;
                bestMean = mean;
            }
        }

        private int meanOfTried(int farmer, int n) {
            long all = told.allWeight(n);
            if (all == 0) {
                return 0;
            }
            aim(farmer, 0);
            gather(0, n, 1);
            return (int) (areas * 1000 / all);
        }

        private void aim(int farmer, int cell) {
            this.farmer = farmer;
            this.cell = cell;
            had = 0;
            areas = 0;
        }

        /** All rows that go on from the plain tried at a depth. */
        private void gather(int depth, int last, long weight) {
            Plain from = tried[depth];
            if (depth >= last || depth >= MOST_ROW) {
                long field = from.fieldHad(farmer);
                had += (field >>> cell & 1L) != 0 ? weight : 0;
                areas += weight * from.share(field);
                return;
            }
            for (int wind = 0; wind < told.winds; wind++) {
                if (told.chances[wind] > 0) {
                    tried[depth + 1].copyFrom(from);
                    weather.blow(tried[depth + 1], wind);
                    gather(depth + 1, last, weight * told.chances[wind]);
                }
            }
        }

        /** The k-th hour of the plan goes over the plain that is tried: how many bones went. */
        private int goOn(int k) {
            return told.isWind(told.plan[k]) ? weather.blow(tried[0], told.plan[k]) : 0;
        }

        int firstSowing(int farmer, int cell, int r) {
            long hours = now.isHad(farmer, cell) ? 1L : 0L;
            tried[0].copyFrom(now);
            for (int k = 0; k < PLANNED; k++) {
                goOn(k);
                hours |= tried[0].isHad(farmer, cell) ? 1L << k + 1 : 0L;
            }
            for (int k = 0; k + r <= PLANNED; k++) {
                if ((hours >>> k & hours >>> k + r & 1L) != 0) {
                    return k;
                }
            }
            return NONE;
        }

        int leastMore(int farmer, int cell, int bone, int n) {
            for (int weight = now.weights[bone]; weight <= HEAVIEST; weight++) {
                tried[0].copyFrom(now);
                tried[0].weights[bone] = weight;
                if (isKept(farmer, cell, n)) {
                    return weight - now.weights[bone];
                }
            }
            return NONE;
        }

        private boolean isKept(int farmer, int cell, int n) {
            for (int k = 0; k < n; k++) {
                goOn(k);
                if (!tried[0].isHad(farmer, cell)) {
                    return false;
                }
            }
            return true;
        }

        int calmHours() {
            tried[0].copyFrom(now);
            for (int k = 0; k < PLANNED; k++) {
                if (goOn(k) > 0) {
                    return k;
                }
            }
            return PLANNED;
        }

        int disputedBehind(int n) {
            int disputed = 0;
            tried[0].copyFrom(now);
            for (int k = 0; k < n; k++) {
                goOn(k);
                disputed += tried[0].disputed();
            }
            return disputed;
        }

        /** The winds, as bits, behind one hour of which the bones are as on the map. */
        int makers() {
            int winds = 0;
            for (int wind = 0; wind < told.winds; wind++) {
                tried[0].copyFrom(now);
                weather.blow(tried[0], wind);
                winds |= isMapped(tried[0]) ? 1 << wind : 0;
            }
            return winds;
        }

        private boolean isMapped(Plain plain) {
            for (int bone = 0; bone < plain.count; bone++) {
                if (told.map[bone] != NONE && told.map[bone] != plain.cells[bone]) {
                    return false;
                }
            }
            return true;
        }
    }
}
