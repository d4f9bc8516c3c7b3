import java.util.function.ToIntFunction;

/** Promises 1 to 12, sentence by sentence: where each ends, what it refuses, and that nothing is done then. */
public final class TellingPromisesTest {
    private static final Check CHECK = new Check("promises 1 to 12");
    private static final Document USE = new Document(CHECK, "An object is used", "public final class");
    private static final Document DOC = new Document(CHECK, "The constants:", "Of a BONE: 0 its CELL");
    private static final int LEAST = Integer.MIN_VALUE;
    private static final int MOST = Integer.MAX_VALUE;

    public static void main(String[] args) {
        manyCalls();
        USE.finish();
        constants();
        newObject();
        bone();
        stake();
        well();
        wind();
        plan();
        feed();
        end();
        text();
        fault();
        by();
        draw();
        DOC.finish();
        CHECK.finish();
    }

    private static void refused(String call, ToIntFunction<WalkingFences> asked, int want) {
        Look.unchanged(CHECK, call, asked, want);
    }

    private static void manyCalls() {
        USE.says("An object is used for at most 512 calls after it has been made; what later calls answer is free.");
        WalkingFences x = new WalkingFences(3, 3);
        x.bone(4, 5);
        x.wind(0, 0, 0, 1);
        for (int i = 3; i < 511; i++) {
            CHECK.due("call " + i, x.hour(0), 0);
        }
        CHECK.due("call 511", x.of(0, 2), 99);
        CHECK.due("call 512", x.about(2), 508);
        // Texts are the calls that make objects: as many of them as there can be.
        WalkingFences y = new WalkingFences(3, 3);
        for (int i = 0; i < 256; i++) {
            CHECK.due("text " + i, y.text(), 0);
            CHECK.due("back from " + i, y.back(), 0);
        }
    }

    private static void constants() {
        DOC.says("The constants: `NONE = -1`: None.");
        CHECK.due("NONE", WalkingFences.NONE, -1);
    }

    private static void newObject() {
        DOC.says("W by H CELLS (3 to 8, 3 to 6; others: the nearest of these) without anything; THE IMAGE is this.");
        int[] sides = {LEAST, -3, -1, 0, 1, 2, 3, 4, 5, 6, 7, 8, 9, 10, 100, MOST};
        for (int w : sides) {
            for (int h : sides) {
                WalkingFences x = new WalkingFences(w, h);
                int width = w < 3 ? 3 : w > 8 ? 8 : w;
                int height = h < 3 ? 3 : h > 6 ? 6 : h;
                CHECK.due("W by " + w + ", " + h, x.about(0), width);
                CHECK.due("H by " + w + ", " + h, x.about(1), height);
                CHECK.due("cells by " + w + ", " + h, x.cell(width * height - 1, 1), width * height);
                CHECK.due("no more by " + w + ", " + h, x.cell(width * height, 1), -10);
            }
        }
        WalkingFences x = new WalkingFences(3, 3);
        int[] about = {3, 3, 0, 0, 0, 0, -1, 1, 0, 0};
        for (int what = 0; what < about.length; what++) {
            CHECK.due("without anything: about(" + what + ")", x.about(what), about[what]);
        }
        for (int k = 0; k < 40; k++) {
            CHECK.due("without anything: about(" + (10 + k) + ")", x.about(10 + k), 0);
        }
        int[] cell = {0, 9, 0, -1, 0};
        for (int c = 0; c < 9; c++) {
            for (int what = 0; what < cell.length; what++) {
                CHECK.due("without anything: cell(" + c + ", " + what + ")", x.cell(c, what), cell[what]);
            }
        }
        int[] farmer = {0, 0, 0, 0, 0, -1};
        for (int f = 0; f < 6; f++) {
            for (int what = 0; what < farmer.length; what++) {
                CHECK.due("without anything: farmer(" + f + ", " + what + ")", x.farmer(f, what), farmer[what]);
            }
        }
        CHECK.due("no fault yet", x.fault(0), -1);
        WalkingFences y = new WalkingFences(3, 3);
        y.bone(0, 1);
        y.stake(0, 1);
        y.well(2, true);
        y.wind(0, 0, 0, 1);
        y.plan(0, 0);
        y.map(0, 5);
        y.sow(0, 3);
        Check.rule(y, "found 1=1;");
        y.night(0, 0, 2);
        y.hour(0);
        CHECK.due("back to it", y.back(), 0);
        y.text();
        Check.read(x, "");
        x.back();
        x.text();
        Look.same(CHECK, "it is without anything again", Look.at(y), Look.at(x));
    }

    private static void bone() {
        DOC.says("A BONE: its number. NONE for others, in a CELL with a BONE or a STAKE, or if there are 24.");
        CHECK.due("the fourth", Look.told().bone(1, 1), 3);
        CHECK.due("of the most", Look.told().bone(10, 99), 3);
        int[][] others = {{-1, 5}, {-2, 5}, {12, 5}, {13, 5}, {64 + 1, 5}, {LEAST, 5}, {MOST, 5}, {1, 0}, {1, 100}, {1, -1},
            {1, LEAST}, {1, MOST}, {0, 5}, {5, 5}, {6, 5}, {3, 5}, {8, 5}, {11, 5}};
        for (int[] o : others) {
            refused("bone(" + o[0] + ", " + o[1] + ")", x -> x.bone(o[0], o[1]), -1);
        }
        WalkingFences full = new WalkingFences(8, 6);
        for (int i = 0; i < 24; i++) {
            CHECK.due("bone " + i, full.bone(i * 2, 1 + i), i);
        }
        CHECK.due("the 25th", full.bone(1, 5), -1);
        CHECK.due("24 still", full.about(3), 24);
        CHECK.due("its cell is free", full.cell(1, 0), 1);
        CHECK.due("where one lies, too", full.bone(0, 5), -1);
    }

    private static void stake() {
        DOC.says("A FARMER's STAKE (NONE: none): true. False for others, in a CELL with a BONE. (Two may be in one CELL.)");
        int[][] others = {{-1, 1}, {6, 1}, {7, 1}, {LEAST, 1}, {MOST, 1}, {-1, -1}, {6, -1}, {0, -2}, {0, 12}, {0, 13},
            {0, LEAST}, {0, MOST}, {0, 64 + 1}, {0, 0}, {0, 5}, {3, 6}};
        for (int[] o : others) {
            refused("stake(" + o[0] + ", " + o[1] + ")", x -> Look.bit(x.stake(o[0], o[1])), 0);
        }
        refused("stake where it is already", x -> Look.bit(x.stake(0, 3)), 1);
        refused("none where none is", x -> Look.bit(x.stake(5, -1)), 1);
        WalkingFences x = Look.told();
        for (int f = 0; f < 6; f++) {
            CHECK.due("all in one cell", x.stake(f, 8), true);
        }
        CHECK.due("they have it", x.cell(8, 2), 63);
        for (int f = 0; f < 6; f++) {
            CHECK.due("a bone can't be there", x.bone(8, 5), -1);
            CHECK.due("one goes", x.stake(f, -1), true);
            CHECK.due("it is gone", x.farmer(f, 5), -1);
        }
        CHECK.due("then a bone can", x.bone(8, 5), 3);
        CHECK.due("and no stake", x.stake(0, 8), false);
    }

    private static void well() {
        DOC.says("A WELL is there, or not: true. False for others.");
        int[] others = {-1, -2, 12, 13, 64, 66, LEAST, MOST};
        for (int c : others) {
            refused("well(" + c + ", true)", x -> Look.bit(x.well(c, true)), 0);
            refused("well(" + c + ", false)", x -> Look.bit(x.well(c, false)), 0);
        }
        refused("one that is there", x -> Look.bit(x.well(5, true)), 1);
        refused("none where none is", x -> Look.bit(x.well(4, false)), 1);
        WalkingFences x = Look.told();
        for (int c = 0; c < 12; c++) {
            CHECK.due("well in " + c, x.well(c, c % 2 == 0), true);
            CHECK.due("there " + c, x.cell(c, 4), c % 2 == 0 ? 1 : 0);
        }
    }

    private static void wind() {
        DOC.says("A WIND: its number. NONE for others, or if there are 6.");
        int[][] others = {{-2, 0, 5, 5}, {2, 0, 5, 5}, {0, -2, 5, 5}, {0, 2, 5, 5}, {0, 0, -1, 5}, {0, 0, 100, 5},
            {0, 0, 5, -1}, {0, 0, 5, 10}, {LEAST, 0, 5, 5}, {MOST, 0, 5, 5}, {0, LEAST, 5, 5}, {0, MOST, 5, 5},
            {0, 0, LEAST, 5}, {0, 0, MOST, 5}, {0, 0, 5, LEAST}, {0, 0, 5, MOST}};
        for (int[] o : others) {
            refused("wind(" + o[0] + ", " + o[1] + ", " + o[2] + ", " + o[3] + ")", x -> x.wind(o[0], o[1], o[2], o[3]), -1);
        }
        WalkingFences x = Look.told();
        CHECK.due("the fourth, of the least", x.wind(-1, -1, 0, 0), 3);
        CHECK.due("the fifth, of the most", x.wind(1, 1, 99, 9), 4);
        CHECK.due("the sixth", x.wind(0, 0, 1, 1), 5);
        CHECK.due("the seventh", x.wind(0, 0, 1, 1), -1);
        CHECK.due("six are there", x.about(4), 6);
        CHECK.due("all chances", x.odds(0, -1, 1), 3 + 0 + 9 + 1);
    }

    private static void plan() {
        DOC.says("PLAN of the k-th HOUR: true. False for others, and a WIND that isn't told.");
        int[][] others = {{-1, 0}, {40, 0}, {41, 0}, {LEAST, 0}, {MOST, 0}, {0, -1}, {0, 3}, {0, 5}, {0, 6}, {0, LEAST}, {0, MOST}};
        for (int[] o : others) {
            refused("plan(" + o[0] + ", " + o[1] + ")", x -> Look.bit(x.plan(o[0], o[1])), 0);
        }
        WalkingFences none = new WalkingFences(3, 3);
        CHECK.due("without winds", none.plan(0, 0), false);
        WalkingFences x = Look.told();
        for (int k = 0; k < 40; k++) {
            CHECK.due("plan(" + k + ")", x.plan(k, 2 - k % 3), true);
        }
        for (int k = 0; k < 40; k++) {
            CHECK.due("plan of " + k, x.about(10 + k), 2 - k % 3);
        }
    }

    private static void feed() {
        DOC.says("Twenty bytes come behind the tape, the highest of a first: how many it has. NONE, and none come, if there "
                + "would be more than 300.");
        WalkingFences x = new WalkingFences(3, 3);
        x.bone(0, 5);
        x.feed(0x686f6c64, 0x20312b32, 0x2a332b34, 0x2a352b36, 0x2a372b38);
        CHECK.due("twenty more", x.feed(0x2a392d31, 0x303b2020, 0x20202020, 0x20202020, 0x0a0a0a0a), 40);
        CHECK.due("in their order they are a text", x.text(), 0);
        x.by(0);
        CHECK.due("1+2*3+4*5+6*7+8*9-10", x.of(0, 3), 131);
        // The highest byte is one like the others, also where the number is below 0.
        x.feed(0x686f6c64, 0x20313b20, 0xff202020, 0x20202020, 0x20202020);
        CHECK.due("255 is no token", x.text(), -1);
        CHECK.due("it is at its place", x.fault(1), 8);
        // A rest of a tape: what comes next comes behind it, not at a twenty.
        WalkingFences y = new WalkingFences(3, 3);
        y.bone(0, 5);
        y.feed(0x686f6c64, -1, -1, -1, -1);
        y.end(4);
        CHECK.due("behind four", y.feed(0x20373b20, 0x20202020, 0x20202020, 0x20202020, 0x20202020), 24);
        CHECK.due("they are one", y.text(), 0);
        y.by(0);
        CHECK.due("hold 7", y.of(0, 3), 7);
        WalkingFences full = new WalkingFences(3, 3);
        for (int i = 1; i <= 15; i++) {
            CHECK.due("feed", full.feed(0, 0, 0, 0, 0), 20 * i);
        }
        int[] ends = {300, 299, 281};
        for (int n : ends) {
            full.end(n);
            CHECK.due("behind " + n, full.feed(-1, -1, -1, -1, -1), -1);
            CHECK.due("none came behind " + n, full.about(8), n);
        }
        full.end(280);
        CHECK.due("behind 280", full.feed(0, 0, 0, 0, 0), 300);
    }

    private static void end() {
        DOC.says("The tape has its first n bytes alone: n. NONE, and nothing is done, if it has not so many, or n is below 0.");
        int[] others = {-1, -2, 7, 8, 300, LEAST, MOST};
        for (int n : others) {
            refused("end(" + n + ") of 6", x -> x.end(n), -1);
        }
        refused("end(6) of 6", x -> x.end(6), 6);
        WalkingFences x = Look.told();
        CHECK.due("end(5)", x.end(5), 5);
        CHECK.due("five are there", x.about(8), 5);
        CHECK.due("what is cut can't come again", x.end(6), -1);
        CHECK.due("far 1 isn't whole", x.text(), -1);
        CHECK.due("at its end", x.fault(1), 5);
        // What lay behind the end isn't read, though it would hang together with the last byte.
        afterEnd("holdx", 4, 4);
        afterEnd("hold 12", 6, 6);
        afterEnd("hold", 3, 0);
        afterEnd("found 1<=1;", 8, 8);
        CHECK.due("end(0) of none", x.end(0), 0);
        CHECK.due("end(1) of none", x.end(1), -1);
    }

    /** Of a tape of which only the first n bytes are left, this is the place of fault 1. */
    private static void afterEnd(String tape, int n, int place) {
        WalkingFences x = new WalkingFences(3, 3);
        Check.putOnTape(x, tape);
        x.end(n);
        CHECK.due(tape + " cut to " + n, x.text(), -1);
        CHECK.due("fault of " + tape + " cut to " + n, x.fault(0), 1);
        CHECK.due("place of " + tape + " cut to " + n, x.fault(1), place);
    }

    private static void text() {
        DOC.says("The tape (empty then) is a TEXT: its number. NONE: it has a FAULT; or (the tape stays) there are 4.");
        WalkingFences x = Look.told();
        CHECK.due("the third", x.text(), 2);
        CHECK.due("the tape is empty", x.about(8), 0);
        CHECK.due("an empty one is a text, too", x.text(), 3);
        CHECK.due("four are there", x.about(5), 4);
        x.feed(0x20202020, 0x20202020, 0x20202020, 0x20202020, 0x20202020);
        CHECK.due("a fifth", x.text(), -1);
        CHECK.due("its tape stays", x.about(8), 20);
        CHECK.due("four still", x.about(5), 4);
        WalkingFences y = Look.told();
        CHECK.due("one with a fault", Check.read(y, "far"), -1);
        CHECK.due("its tape is empty", y.about(8), 0);
        CHECK.due("two are there", y.about(5), 2);
        CHECK.due("the text that rules", y.about(6), 0);
        CHECK.due("the next number isn't lost", Check.read(y, "far 1;"), 2);
        behindFaults();
        WalkingFences z = Look.told();
        z.text();
        z.text();
        Check.putOnTape(z, "hold 3;");
        z.text();
        z.back();
        CHECK.due("back there are none", z.about(5), 0);
        CHECK.due("the tape that stayed is a text then", z.text(), 0);
        z.by(0);
        CHECK.due("it rules", z.of(0, 3), 3);
    }

    /** Nothing is left of what had a fault, nor of texts from which one has gone back. */
    private static void behindFaults() {
        WalkingFences x = new WalkingFences(8, 6);
        x.bone(0, 5);
        for (int i = 0; i < 5; i++) {
            CHECK.due("nineteen and a fault", Check.read(x, "bone 5 at 1,1;".repeat(19) + "far"), -1);
            CHECK.due("long and a fault", Check.read(x, "hold " + "1+".repeat(140) + "!"), -1);
            CHECK.due("found and a fault", Check.read(x, "crop 1;found 1=1;found 1=1;far !"), -1);
        }
        CHECK.due("a long one", Check.read(x, "hold " + "1+".repeat(146) + "1;"), 0);
        CHECK.due("twenty", Check.read(x, "far 1;" + "bone 5 at 1,1;".repeat(19)), 1);
        x.by(0);
        CHECK.due("it is whole", x.of(0, 3), 147);
        CHECK.due("no one is found by it", x.night(0, 0, 1), 1);
        CHECK.due("nothing is drawn by it", x.draw(0), -1);
        CHECK.due("no bone", x.about(3), 0);
        WalkingFences y = new WalkingFences(3, 3);
        y.bone(0, 5);
        y.image();
        Check.rule(y, "found 1=1;found 1=1;found 1=1;");
        y.back();
        Check.rule(y, "found 1+1+1+1+1+1=2;");
        CHECK.due("not found by what has gone", y.night(0, 0, 1), 1);
        y.back();
        Check.read(y, "bone 5 at 2,2;bone 5 at 1,1;bone 5 at 0,1;");
        y.back();
        Check.read(y, "bone 5 at 1,2;");
        CHECK.due("nor drawn", y.draw(0), -1);
        CHECK.due("no bone of it", y.about(3), 1);
    }

    private static void fault() {
        DOC.says("Of the latest text that was read: 0 its FAULT (0 without), 1 its place (NONE without). NONE for others, "
                + "and ahead of any.");
        WalkingFences x = new WalkingFences(3, 3);
        int[] whats = {0, 1, 2, 3, -1, LEAST, MOST};
        for (int what : whats) {
            CHECK.due("ahead of any, " + what, x.fault(what), -1);
        }
        Check.putOnTape(x, "hold");
        CHECK.due("a tape isn't read yet", x.fault(0), -1);
        x.text();
        CHECK.due("its fault", x.fault(0), 1);
        CHECK.due("its place", x.fault(1), 4);
        for (int i = 2; i < whats.length; i++) {
            CHECK.due("others, " + whats[i], x.fault(whats[i]), -1);
        }
        x.text();
        CHECK.due("without", x.fault(0), 0);
        CHECK.due("without a place", x.fault(1), -1);
        CHECK.due("others without", x.fault(2), -1);
        Check.read(x, "!");
        CHECK.due("at the first byte", x.fault(1), 0);
        for (int i = 0; i < 3; i++) {
            Check.read(x, "");
        }
        Check.read(x, "hold 1;hold 2;");
        CHECK.due("a fifth isn't read", x.fault(0), 0);
        CHECK.due("nor has it a place", x.fault(1), -1);
    }

    private static void by() {
        DOC.says("THE TEXT (NONE: none): true. False for others.");
        int[] others = {-2, 2, 3, 4, LEAST, MOST};
        for (int text : others) {
            refused("by(" + text + ")", x -> Look.bit(x.by(text)), 0);
        }
        refused("by the one that rules", x -> Look.bit(x.by(0)), 1);
        WalkingFences x = Look.told();
        CHECK.due("by(1)", x.by(1), true);
        CHECK.due("it rules", x.about(6), 1);
        CHECK.due("by(-1)", x.by(-1), true);
        CHECK.due("none rules", x.about(6), -1);
        CHECK.due("without texts by(-1)", new WalkingFences(3, 3).by(-1), true);
        CHECK.due("without texts by(0)", new WalkingFences(3, 3).by(0), false);
    }

    private static void draw() {
        DOC.says("DRAWN by a TEXT: NONE: all is done; else the number of the CLAUSE that can't be (what was done stays). "
                + "-2 for others.");
        int[] others = {-1, -2, 2, 3, 4, LEAST, MOST};
        for (int text : others) {
            refused("draw(" + text + ")", x -> x.draw(text), -2);
        }
        WalkingFences x = Look.told();
        CHECK.due("all is done", x.draw(0), -1);
        CHECK.due("one bone", x.about(3), 1);
        CHECK.due("in its cell", x.of(0, 0), 5);
        CHECK.due("of its weight", x.of(0, 1), 5);
        CHECK.due("it has not lain yet", x.of(0, 2), 0);
        CHECK.due("the stake", x.farmer(0, 5), 0);
        CHECK.due("no other stake", x.farmer(1, 5), -1);
        CHECK.due("no crops", x.about(9), 0);
        CHECK.due("fines stay", x.farmer(4, 3), 1);
        CHECK.due("wells stay", x.cell(2, 4), 1);
        CHECK.due("winds stay", x.about(4), 3);
        CHECK.due("the hour stays", x.about(2), 2);
        CHECK.due("the tape stays", x.about(8), 6);
        WalkingFences y = Look.told();
        CHECK.due("the second clause can't be", y.draw(1), 1);
        CHECK.due("what was done stays", y.of(0, 0), 3);
        CHECK.due("what was there doesn't", y.about(3), 1);
        CHECK.due("no stakes", y.farmer(0, 5), -1);
        CHECK.due("the text that rules isn't the drawn one", y.about(6), 0);
        CHECK.due("once more the same", y.draw(1), 1);
        CHECK.due("without texts", new WalkingFences(3, 3).draw(0), -2);
    }
}
