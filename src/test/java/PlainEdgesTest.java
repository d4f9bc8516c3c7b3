/** The terms, part I, sentence by sentence: what is told, and where it ends. */
public final class PlainEdgesTest {
    private static final Check CHECK = new Check("terms I");
    private static final Document DOC = new Document(CHECK, "THE PLAIN:", "==== II.");

    public static void main(String[] args) {
        plain();
        bones();
        weights();
        lies();
        farmers();
        wells();
        theHour();
        winds();
        plan();
        fields();
        disputed();
        area();
        DOC.finish();
        CHECK.finish();
    }

    private static void plain() {
        DOC.says("THE PLAIN: W by H CELLS (x, y from 0; c = x + W y).");
        int[][] sizes = {{3, 3}, {3, 6}, {8, 3}, {8, 6}, {5, 4}};
        for (int[] s : sizes) {
            int last = s[0] * s[1] - 1;
            place(s, 0, 0);
            place(s, s[0] - 1, (s[0] - 1) * 10);
            place(s, s[0], 1);
            place(s, last - s[0] + 1, s[1] - 1);
            place(s, last, (s[0] - 1) * 10 + s[1] - 1);
            CHECK.due("a cell behind the last", new WalkingFences(s[0], s[1]).bone(last + 1, 5), -1);
        }
    }

    /** x * 10 + y of a cell. */
    private static void place(int[] size, int cell, int want) {
        WalkingFences x = new WalkingFences(size[0], size[1]);
        x.bone(cell, 5);
        Check.rule(x, "hold x*10+y;");
        CHECK.due("place of " + cell + " in " + size[0] + " by " + size[1], x.of(0, 3), want);
    }

    private static void bones() {
        DOC.says("BONES 0 .. 23 (told one by one), each in a CELL, no two in one;");
        WalkingFences x = new WalkingFences(8, 3);
        for (int i = 0; i < 23; i++) {
            CHECK.due("the bone in " + i, x.bone(i, 5), i);
            CHECK.due("no second in " + i, x.bone(i, 5), -1);
        }
        CHECK.due("23 are there", x.about(3), 23);
        CHECK.due("the last, which fills the plain", x.bone(23, 5), 23);
        CHECK.due("24 are there", x.about(3), 24);
        WalkingFences y = new WalkingFences(3, 3);
        y.bone(0, 5);
        y.night(0, 0, 1);
        CHECK.due("where one has gone away another can be", y.bone(0, 5), 1);
        CHECK.due("but not where it went", y.bone(1, 5), -1);
        WalkingFences small = new WalkingFences(3, 3);
        for (int i = 0; i < 9; i++) {
            small.bone(i, 5);
        }
        CHECK.due("a plain full of bones has no field", small.about(7), 0);
        CHECK.due("nor a cell for one more", small.bone(4, 5), -1);
        CHECK.due("nor for a stake", small.stake(0, 4), false);
    }

    private static void weights() {
        DOC.says("WEIGHT (1 .. 99),");
        int[] others = {0, 100, -1, -99, 256 + 5, Integer.MIN_VALUE, Integer.MAX_VALUE};
        for (int weight : others) {
            WalkingFences x = new WalkingFences(3, 3);
            CHECK.due("bone(0, " + weight + ")", x.bone(0, weight), -1);
            CHECK.due("none is there", x.about(3), 0);
        }
        WalkingFences x = new WalkingFences(3, 3);
        x.bone(0, 1);
        x.bone(1, 99);
        CHECK.due("the least", x.of(0, 1), 1);
        CHECK.due("the most", x.of(1, 1), 99);
    }

    private static void lies() {
        DOC.says("LIES: HOURS since it went last (0 .. 99, it stays 99 then; at first 0).");
        WalkingFences x = new WalkingFences(3, 3);
        x.bone(0, 5);
        x.wind(0, 0, 0, 1);
        x.wind(1, 0, 10, 0);
        CHECK.due("at first", x.of(0, 2), 0);
        x.hours(0, 40);
        x.hours(0, 40);
        x.hours(0, 18);
        CHECK.due("behind 98 hours", x.of(0, 2), 98);
        x.hour(0);
        CHECK.due("behind 99 hours", x.of(0, 2), 99);
        x.hour(0);
        CHECK.due("behind 100 hours it stays", x.of(0, 2), 99);
        x.hours(0, 40);
        CHECK.due("behind 140 hours", x.of(0, 2), 99);
        CHECK.due("it goes", x.hour(1), 1);
        CHECK.due("then it is 0", x.of(0, 2), 0);
        x.hour(0);
        CHECK.due("and 1", x.of(0, 2), 1);
    }

    private static void farmers() {
        DOC.says("FARMERS 0 .. 5: a STAKE in a CELL without a BONE, or none (at first).");
        WalkingFences x = new WalkingFences(3, 3);
        x.bone(4, 5);
        for (int f = 0; f < 6; f++) {
            CHECK.due("none at first", x.farmer(f, 5), -1);
            CHECK.due("none in a cell with a bone", x.stake(f, 4), false);
            CHECK.due("still none", x.farmer(f, 5), -1);
            CHECK.due("one in another", x.stake(f, f == 4 ? 8 : f), true);
            CHECK.due("it is there", x.farmer(f, 5), f == 4 ? 8 : f);
        }
        CHECK.due("no seventh", x.stake(6, 6), false);
        CHECK.due("none below the first", x.stake(-1, 6), false);
        for (int f = 0; f < 6; f++) {
            CHECK.due("none again", x.stake(f, -1), true);
            CHECK.due("none is none still", x.stake(f, -1), true);
            CHECK.due("it is gone", x.farmer(f, 5), -1);
        }
    }

    private static void wells() {
        DOC.says("WELLS: CELLS (told or not).");
        WalkingFences x = new WalkingFences(8, 6);
        for (int c = 0; c < 48; c++) {
            CHECK.due("not told", x.cell(c, 4), 0);
            x.well(c, true);
            CHECK.due("told", x.cell(c, 4), 1);
        }
        x.stake(0, 0);
        CHECK.due("all are wells", x.farmer(0, 4), 48);
        for (int c = 0; c < 48; c++) {
            x.well(c, false);
            CHECK.due("no more", x.cell(c, 4), 0);
        }
        CHECK.due("none is a well", x.farmer(0, 4), 0);
        x.well(5, false);
        CHECK.due("not told, not there", x.cell(5, 4), 0);
    }

    private static void theHour() {
        DOC.says("THE HOUR (0 .. 999).");
        WalkingFences x = new WalkingFences(3, 3);
        x.wind(0, 0, 0, 1);
        CHECK.due("the first", x.about(2), 0);
        Check.toHour(x, 998);
        CHECK.due("hour() to the last", x.hour(0), 0);
        CHECK.due("the last", x.about(2), 999);
        CHECK.due("none behind it", x.hour(0), -1);
        CHECK.due("it is the last still", x.about(2), 999);
    }

    private static void winds() {
        DOC.says("WINDS 0 .. 5 (told one by one): (dx, dy) (-1 .. 1 each), STRENGTH (0 .. 99), CHANCE (0 .. 9).");
        for (int dx = -2; dx <= 2; dx++) {
            for (int dy = -2; dy <= 2; dy++) {
                boolean can = Math.abs(dx) < 2 && Math.abs(dy) < 2;
                CHECK.due("wind by " + dx + ", " + dy, new WalkingFences(3, 3).wind(dx, dy, 5, 5), can ? 0 : -1);
            }
        }
        int[][] told = {{0, 0, 0}, {99, 9, 0}, {-1, 0, -1}, {100, 0, -1}, {0, -1, -1}, {0, 10, -1},
            {Integer.MIN_VALUE, 0, -1}, {Integer.MAX_VALUE, 0, -1}, {0, Integer.MIN_VALUE, -1}, {0, Integer.MAX_VALUE, -1}};
        for (int[] t : told) {
            WalkingFences x = new WalkingFences(3, 3);
            CHECK.due("wind of " + t[0] + ", " + t[1], x.wind(1, 1, t[0], t[1]), t[2]);
            CHECK.due("how many there are", x.about(4), t[2] + 1);
        }
        WalkingFences x = new WalkingFences(3, 3);
        for (int i = 0; i < 6; i++) {
            CHECK.due("one by one", x.wind(1, 0, 5, 5), i);
        }
        CHECK.due("no seventh", x.wind(1, 0, 5, 5), -1);
        CHECK.due("six are there", x.about(4), 6);
    }

    private static void plan() {
        DOC.says("PLAN: the WIND of the k-th HOUR from now on (0 .. 39; at first 0).");
        WalkingFences x = new WalkingFences(3, 3);
        x.bone(0, 5);
        x.wind(0, 0, 0, 1);
        x.wind(1, 0, 10, 1);
        for (int k = 0; k < 40; k++) {
            CHECK.due("at first", x.about(10 + k), 0);
        }
        CHECK.due("the first hour", x.plan(0, 1), true);
        CHECK.due("the last", x.plan(39, 1), true);
        CHECK.due("none behind it", x.plan(40, 1), false);
        CHECK.due("none ahead of the first", x.plan(-1, 1), false);
        CHECK.due("it goes in the first", x.calm(), 0);
        x.plan(0, 0);
        CHECK.due("it goes in the last", x.calm(), 39);
        x.hours(0, 3);
        CHECK.due("from now on: it goes in the last still", x.calm(), 39);
    }

    private static void fields() {
        DOC.says("FIELDS: CELLS without BONES that hang together by sides; a FIELD is known by its lowest CELL.");
        WalkingFences whole = new WalkingFences(8, 6);
        CHECK.due("without bones all is one", whole.about(7), 1);
        CHECK.due("known by 0", whole.cell(47, 0), 0);
        CHECK.due("of 48", whole.cell(47, 1), 48);
        // # . .    The corners of 1 and 3 don't hang together by themselves, but around the midst they do.
        // . # .
        // . . .
        WalkingFences x = new WalkingFences(3, 3);
        x.bone(0, 5);
        x.bone(4, 5);
        CHECK.due("around the midst", x.cell(3, 0), 1);
        x.bone(8, 5);
        CHECK.due("by corners alone they don't", x.cell(3, 0), 3);
        CHECK.due("two fields", x.about(7), 2);
        CHECK.due("of three cells", x.cell(7, 1), 3);
        CHECK.due("and of three", x.cell(5, 1), 3);
        CHECK.due("a bone's cell is in none", x.cell(8, 0), -1);
        WalkingFences y = new WalkingFences(3, 3);
        y.bone(1, 5);
        y.bone(4, 5);
        y.bone(7, 5);
        CHECK.due("a row doesn't go on in the next one", y.cell(2, 0), 2);
        CHECK.due("nor one behind it", y.cell(5, 0), 2);
        CHECK.due("the first cell of a row", y.cell(6, 0), 0);
        CHECK.due("two parts", y.about(7), 2);
        WalkingFences z = new WalkingFences(3, 3);
        z.bone(3, 5);
        z.bone(4, 5);
        z.bone(5, 5);
        CHECK.due("the plain doesn't go on from below at the top", z.cell(7, 0), 6);
    }

    private static void disputed() {
        DOC.says("A FARMER HAS the FIELD of his STAKE; it is DISPUTED, if others have it, too.");
        WalkingFences x = new WalkingFences(3, 3);
        x.stake(5, 8);
        CHECK.due("he has all", x.cell(0, 2), 32);
        CHECK.due("alone it isn't disputed", x.disputes(0), 0);
        x.stake(0, 8);
        CHECK.due("two in one cell", x.cell(0, 2), 33);
        CHECK.due("dispute it", x.disputes(0), 1);
        for (int f = 0; f < 6; f++) {
            x.stake(f, f);
        }
        CHECK.due("all six", x.cell(8, 2), 63);
        CHECK.due("dispute one field", x.disputes(0), 1);
        for (int f = 1; f < 6; f++) {
            x.stake(f, -1);
        }
        CHECK.due("none without a stake", x.cell(8, 2), 1);
        CHECK.due("it isn't disputed any more", x.disputes(0), 0);
    }

    private static void area() {
        DOC.says("AREA of a FARMER: the CELLS of that FIELD by how many FARMERS have it, cut (0 without a STAKE).");
        WalkingFences x = new WalkingFences(3, 3);
        CHECK.due("without a stake", x.farmer(0, 0), 0);
        int[] shares = {9, 4, 3, 2, 1, 1};
        for (int f = 0; f < 6; f++) {
            x.stake(f, 2);
            CHECK.due("9 by " + (f + 1), x.farmer(0, 0), shares[f]);
            CHECK.due("to each the same", x.farmer(f, 0), shares[f]);
        }
        x.bone(1, 5);
        x.bone(5, 5);
        CHECK.due("1 by 6 is cut to 0", x.farmer(0, 0), 0);
        for (int f = 1; f < 6; f++) {
            x.stake(f, -1);
        }
        CHECK.due("1 by 1", x.farmer(0, 0), 1);
        CHECK.due("gone with the stake", x.farmer(5, 0), 0);
    }
}
