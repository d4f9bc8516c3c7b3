/** The terms, part III, sentence by sentence: an hour, crops, nights, rings and gates. */
public final class HourEdgesTest {
    private static final Check CHECK = new Check("terms III");
    private static final Document DOC = new Document(CHECK, "AN HOUR by a WIND:", "==== IV.");
    private static final int[][] WAYS = {{0, -1}, {1, -1}, {1, 0}, {1, 1}, {0, 1}, {-1, 1}, {-1, 0}, {-1, -1}};

    public static void main(String[] args) {
        order();
        spare();
        going();
        lies();
        oneMore();
        cropsUnderBones();
        sowing();
        reaping();
        nightSteps();
        found();
        rings();
        gates();
        DOC.finish();
        CHECK.finish();
    }

    private static String name(int[] way) {
        return way[0] + ", " + way[1];
    }

    private static void order() {
        DOC.says("AN HOUR by a WIND: BONE by BONE, those with the greatest x dx + y dy (as the HOUR begins) first, "
                + "of like ones the lowest:");
        for (int[] way : WAYS) {
            row(way, -1, 0, 1);
            row(way, 1, 0, -1);
            row(way, 0, 1, -1);
            if (way[0] * way[1] == 0) {
                pair(way, 0, 1);
                pair(way, 1, 0);
            }
        }
        WalkingFences x = new WalkingFences(3, 3);
        x.wind(1, 1, 99, 1);
        CHECK.due("without bones none goes", x.hour(0), 0);
        corners();
    }

    /** From the four corners of the greatest plain those go that have a cell ahead. */
    private static void corners() {
        int[] wents = {2, 1, 2, 1, 2, 1, 2, 1};
        for (int i = 0; i < WAYS.length; i++) {
            WalkingFences x = new WalkingFences(8, 6);
            int[] at = {47, 0, 40, 7};
            for (int c : at) {
                x.bone(c, 1);
            }
            x.wind(WAYS[i][0], WAYS[i][1], 2, 1);
            CHECK.due("from the corners by " + name(WAYS[i]), x.hour(0), wents[i]);
        }
    }

    /** Three bones along the wind, told in this order: each can go one step, as the one ahead of it went before. */
    private static void row(int[] way, int... places) {
        WalkingFences x = new WalkingFences(6, 6);
        for (int p : places) {
            x.bone(2 + p * way[0] + 6 * (2 + p * way[1]), 10);
        }
        x.wind(way[0], way[1], 11, 1);
        CHECK.due("all go by " + name(way), x.hour(0), 3);
        for (int bone = 0; bone < 3; bone++) {
            int p = places[bone] + 1;
            CHECK.due("bone " + bone + " by " + name(way), x.of(bone, 0), 2 + p * way[0] + 6 * (2 + p * way[1]));
        }
    }

    /** Two bones side by side before the wind; one that has none beside it any more stays. */
    private static void pair(int[] way, int first, int second) {
        WalkingFences x = new WalkingFences(6, 6);
        int[] cells = {14, 14 + Math.abs(way[1]) + 6 * Math.abs(way[0])};
        x.bone(cells[first], 10);
        x.bone(cells[second], 10);
        x.wind(way[0], way[1], 15, 1);
        Check.rule(x, "hold 20-beside*10;far 1;");
        CHECK.due("one of a pair by " + name(way), x.hour(0), 1);
        CHECK.due("the lowest went by " + name(way), x.of(0, 0), cells[first] + way[0] + 6 * way[1]);
        CHECK.due("the other didn't by " + name(way), x.of(1, 0), cells[second]);
    }

    /** A bone at the left of a plain of 8 goes so many steps to the right. */
    private static void blown(String law, int weight, int strength, int steps) {
        WalkingFences x = new WalkingFences(8, 3);
        x.bone(8, weight);
        x.wind(1, 0, strength, 1);
        Check.rule(x, law);
        String what = "weight " + weight + ", strength " + strength + ", " + law;
        CHECK.due("hour by " + what, x.hour(0), steps == 0 ? 0 : 1);
        CHECK.due("steps by " + what, x.of(0, 0) - 8, steps);
        CHECK.due("lies by " + what, x.of(0, 2), steps == 0 ? 1 : 0);
    }

    private static void spare() {
        DOC.says("its SPARE is STRENGTH less hold (without: WEIGHT), NAMES as all lies then.");
        blown("", 1, 0, 0);
        blown("", 1, 1, 0);
        blown("", 1, 2, 1);
        blown("", 98, 99, 1);
        blown("", 99, 99, 0);
        blown("hold 0;", 99, 0, 0);
        blown("hold 0;", 99, 1, 1);
        blown("hold 0-1;", 99, 0, 1);
        blown("hold 98;", 1, 99, 1);
        blown("hold 99;", 1, 99, 0);
        blown("hold 9999;", 1, 99, 0);
        blown("hold 9999*9999;", 1, 99, 0);
        blown("far strength-spare-3;", 7, 50, 4);
        // The one ahead has gone, when it is the turn of the one behind it.
        WalkingFences x = new WalkingFences(8, 3);
        x.bone(8, 10);
        x.bone(9, 10);
        x.wind(1, 0, 15, 1);
        Check.rule(x, "hold 20-beside*10;far 3;");
        CHECK.due("one of a row", x.hour(0), 1);
        CHECK.due("the one ahead", x.of(1, 0), 12);
        CHECK.due("the one behind has none beside it then", x.of(0, 0), 8);
        // The hour and lies are those before.
        WalkingFences y = new WalkingFences(8, 3);
        y.bone(8, 10);
        y.wind(1, 0, 1, 1);
        Check.rule(y, "hold hour+lies;far 1;");
        CHECK.due("hour 0", y.hour(0), 1);
        CHECK.due("hour 1", y.hour(0), 0);
    }

    private static void going() {
        DOC.says("If SPARE is above 0, and dx, dy aren't both 0, it goes by (dx, dy), step by step, as long as there is a "
                + "CELL without BONE and STAKE, far steps at most (0 at least, 9 at most; without 1 + SPARE / 20, cut).");
        WalkingFences still = new WalkingFences(3, 3);
        still.bone(4, 1);
        still.wind(0, 0, 99, 1);
        CHECK.due("by a wind without a way", still.hour(0), 0);
        CHECK.due("it is where it was", still.of(0, 0), 4);
        borders();
        obstacles();
        int[][] withoutFar = {{1, 1}, {19, 1}, {20, 2}, {39, 2}, {40, 3}, {59, 3}, {60, 4}, {79, 4}, {80, 5}, {98, 5}};
        for (int[] w : withoutFar) {
            blown("", 1, 1 + w[0], w[1]);
        }
        blown("hold 0-1;", 1, 99, 6);
        blown("hold 0-20;", 1, 99, 6);
        blown("hold 0-21;", 1, 99, 7);
        blown("hold 0-9999*9999;", 1, 99, 7);
        blown("hold 0-9999*9999;", 1, 0, 7);
        String[] none = {"0", "0-1", "-9999*9999", "1-1"};
        for (String far : none) {
            blown("far " + far + ";", 1, 99, 0);
        }
        for (int steps = 1; steps <= 7; steps++) {
            blown("far " + steps + ";", 1, 2, steps);
        }
        String[] all = {"8", "9", "10", "9999", "9999*9999"};
        for (String far : all) {
            blown("far " + far + ";", 1, 99, 7);
        }
        blown("far 9;", 50, 50, 0);
        blown("far 9;", 50, 49, 0);
    }

    /** Up to the border, by each way, and not around it. */
    private static void borders() {
        int[][] ends = {{3, 0}, {5, 0}, {7, 2}, {6, 5}, {3, 5}, {0, 5}, {0, 2}, {1, 0}};
        for (int i = 0; i < WAYS.length; i++) {
            WalkingFences x = new WalkingFences(8, 6);
            x.bone(19, 1);
            x.wind(WAYS[i][0], WAYS[i][1], 99, 1);
            Check.rule(x, "far 9;");
            CHECK.due("it goes by " + name(WAYS[i]), x.hour(0), 1);
            CHECK.due("to the border by " + name(WAYS[i]), x.of(0, 0), ends[i][0] + 8 * ends[i][1]);
            CHECK.due("and no further", x.hour(0), 0);
            CHECK.due("it stays there", x.of(0, 0), ends[i][0] + 8 * ends[i][1]);
        }
    }

    private static void obstacles() {
        for (int[] way : WAYS) {
            WalkingFences x = new WalkingFences(6, 6);
            int beside = 14 + way[0] + 6 * way[1];
            int next = beside + way[0] + 6 * way[1];
            x.bone(14, 1);
            x.bone(next, 99);
            x.wind(way[0], way[1], 50, 1);
            CHECK.due("up to a bone by " + name(way), x.hour(0), 1);
            CHECK.due("beside it", x.of(0, 0), beside);
            CHECK.due("it can't go any more", x.hour(0), 0);
            WalkingFences y = new WalkingFences(6, 6);
            y.bone(14, 1);
            y.stake(5, next);
            y.stake(2, next);
            y.wind(way[0], way[1], 50, 1);
            CHECK.due("up to a stake by " + name(way), y.hour(0), 1);
            CHECK.due("beside the stake", y.of(0, 0), beside);
            y.stake(5, -1);
            CHECK.due("one of two stakes stops it, too", y.hour(0), 0);
            y.stake(2, -1);
            CHECK.due("none stops it", y.hour(0), 1);
        }
    }

    private static void lies() {
        DOC.says("LIES is 0, if it went at all, else 1 more.");
        WalkingFences x = new WalkingFences(8, 3);
        x.bone(8, 1);
        x.bone(10, 99);
        x.wind(1, 0, 99, 1);
        x.wind(-1, 0, 0, 1);
        x.hour(1);
        x.hour(1);
        CHECK.due("behind two hours", x.of(0, 2), 2);
        x.hour(0);
        CHECK.due("one step of five that it could go", x.of(0, 0), 9);
        CHECK.due("it went", x.of(0, 2), 0);
        CHECK.due("the other didn't", x.of(1, 2), 3);
        x.hour(0);
        CHECK.due("it could, but for the other", x.of(0, 2), 1);
    }

    private static void oneMore() {
        DOC.says("Then THE HOUR is one more.");
        WalkingFences x = new WalkingFences(3, 3);
        x.wind(0, 0, 0, 1);
        for (int i = 1; i <= 30; i++) {
            x.hour(0);
            CHECK.due("the hour", x.about(2), i);
        }
        x.hour(1);
        CHECK.due("not by a wind that isn't told", x.about(2), 30);
        // While bones go it is the hour before: all of them by the same.
        WalkingFences y = new WalkingFences(3, 3);
        y.bone(0, 1);
        y.bone(3, 1);
        y.bone(6, 1);
        y.wind(1, 0, 1, 1);
        Check.rule(y, "hold hour;far 1;");
        CHECK.due("all in hour 0", y.hour(0), 3);
        CHECK.due("none in hour 1", y.hour(0), 0);
    }

    private static void cropsUnderBones() {
        DOC.says("(A BONE that lies anywhere behind its steps, or is told there, ends the crop there; on the way it doesn't.)");
        WalkingFences x = new WalkingFences(8, 3);
        x.bone(8, 1);
        x.stake(0, 0);
        for (int c = 9; c < 16; c++) {
            x.sow(0, c);
        }
        x.wind(1, 0, 50, 1);
        CHECK.due("three steps", x.hour(0), 1);
        CHECK.due("it is there", x.of(0, 0), 11);
        for (int c = 9; c < 16; c++) {
            CHECK.due("crop in " + c, x.cell(c, 3), c == 11 ? -1 : 0);
        }
        CHECK.due("one is gone", x.about(9), 6);
        x.bone(14, 99);
        CHECK.due("one is told there", x.cell(14, 3), -1);
        CHECK.due("two are gone", x.about(9), 5);
        CHECK.due("a bone that is refused ends none", x.bone(9, 100), -1);
        CHECK.due("it is there still", x.cell(9, 3), 0);
        x.hour(0);
        CHECK.due("it lies ahead of the other", x.of(0, 0), 13);
        CHECK.due("behind it the crop stays gone", x.cell(11, 3), -1);
        CHECK.due("on the way it stays", x.cell(12, 3), 0);
        CHECK.due("where it lies it is gone", x.cell(13, 3), -1);
    }

    /** Two fields of three cells, above and below a fence. */
    private static WalkingFences fence() {
        WalkingFences x = new WalkingFences(3, 3);
        x.bone(3, 9);
        x.bone(4, 9);
        x.bone(5, 9);
        x.wind(0, 0, 0, 1);
        return x;
    }

    private static void sowing() {
        DOC.says("CROPS: a FARMER sows a CELL of the FIELD that he HAS (also a DISPUTED one; what was sown there is gone).");
        WalkingFences x = fence();
        x.stake(0, 0);
        for (int c = 0; c < 9; c++) {
            CHECK.due("sow(0, " + c + ")", x.sow(0, c), c < 3);
        }
        CHECK.due("three are sown", x.about(9), 3);
        x.stake(1, 2);
        x.stake(2, 2);
        x.hours(0, 7);
        CHECK.due("a disputed one", x.sow(1, 0), true);
        CHECK.due("what was there is gone", x.cell(0, 3), 7);
        CHECK.due("one's own again", x.sow(0, 0), true);
        CHECK.due("three still", x.about(9), 3);
        x.stake(0, -1);
        CHECK.due("without a stake no more", x.sow(0, 0), false);
        x.stake(0, 6);
        CHECK.due("not what one had before", x.sow(0, 0), false);
        CHECK.due("the one that one has now", x.sow(0, 8), true);
    }

    private static void reaping() {
        DOC.says("He reaps: of all CELLS of that FIELD with a crop (whoever sowed it), if it isn't DISPUTED: "
                + "crop (0 at least, 999 at most; without: age, 999 at most) of all, together; they are gone.");
        WalkingFences x = fence();
        x.stake(0, 0);
        x.stake(1, 8);
        CHECK.due("no crop: 0", x.reap(0), 0);
        x.sow(0, 0);
        x.sow(0, 1);
        x.sow(1, 6);
        CHECK.due("of age 0: 0", x.reap(0), 0);
        CHECK.due("but they are gone", x.about(9), 1);
        x.sow(0, 2);
        x.hours(0, 4);
        x.stake(2, 1);
        CHECK.due("disputed", x.reap(0), -1);
        CHECK.due("by both", x.reap(2), -1);
        CHECK.due("they stay", x.about(9), 2);
        x.stake(0, -1);
        CHECK.due("whoever sowed it", x.reap(2), 4);
        CHECK.due("the other field's stays", x.about(9), 1);
        CHECK.due("twice is 0", x.reap(2), 0);
        CHECK.due("the other field's", x.reap(1), 4);
        CHECK.due("none is left", x.about(9), 0);
        cropsCut();
        oldest();
    }

    private static void cropsCut() {
        int[][] due = {{-1, 0}, {0, 0}, {1, 1}, {998, 998}, {999, 999}, {1000, 999}, {9999, 999}};
        for (int[] d : due) {
            WalkingFences x = fence();
            x.stake(0, 0);
            x.sow(0, 1);
            Check.rule(x, d[0] < 0 ? "crop 0-" + -d[0] + ";" : "crop " + d[0] + ";");
            CHECK.due("crop " + d[0], x.reap(0), d[1]);
        }
        WalkingFences x = fence();
        x.stake(0, 0);
        for (int c = 0; c < 3; c++) {
            x.sow(0, c);
        }
        Check.rule(x, "crop (x-1)*5000+7;");
        CHECK.due("each is cut by itself", x.reap(0), 0 + 7 + 999);
    }

    private static void oldest() {
        WalkingFences x = new WalkingFences(8, 6);
        x.stake(0, 0);
        for (int c = 0; c < 48; c++) {
            x.sow(0, c);
        }
        x.wind(0, 0, 0, 1);
        Check.toHour(x, 999);
        CHECK.due("48 of age 999", x.about(9), 48);
        CHECK.due("the most there can be", x.reap(0), 48 * 999);
    }

    private static void nightSteps() {
        DOC.says("NIGHT: a FARMER moves a BONE by one step (0 to y - 1, 1 to x + 1, 2 to y + 1, 3 to x - 1) into a CELL "
                + "without BONE and STAKE.");
        int[] to = {3, 9, 13, 7};
        for (int step = 0; step < 4; step++) {
            WalkingFences x = new WalkingFences(5, 3);
            x.bone(8, 99);
            CHECK.due("step " + step, x.night(0, 0, step), 1);
            CHECK.due("cell by step " + step, x.of(0, 0), to[step]);
            WalkingFences bones = new WalkingFences(5, 3);
            bones.bone(8, 99);
            bones.bone(to[step], 1);
            CHECK.due("onto a bone by " + step, bones.night(0, 0, step), -1);
            WalkingFences stakes = new WalkingFences(5, 3);
            stakes.bone(8, 99);
            stakes.stake(0, to[step]);
            stakes.stake(5, to[step]);
            CHECK.due("onto one's own stake by " + step, stakes.night(0, 0, step), -1);
            stakes.stake(0, -1);
            CHECK.due("onto another's by " + step, stakes.night(0, 0, step), -1);
            stakes.stake(5, -1);
            CHECK.due("onto none by " + step, stakes.night(0, 0, step), 1);
        }
        // Beyond the border there is no cell, nor around it.
        int[][] border = {{2, 0}, {9, 1}, {12, 2}, {5, 3}, {4, 1}, {10, 3}, {0, 0}, {14, 2}};
        for (int[] b : border) {
            WalkingFences x = new WalkingFences(5, 3);
            x.bone(b[0], 5);
            CHECK.due("off the plain from " + b[0], x.night(0, 0, b[1]), -1);
            CHECK.due("it stays in " + b[0], x.of(0, 0), b[0]);
        }
    }

    private static void found() {
        DOC.says("He is FOUND, if a found clause is so (NAMES as it lies before; without any: never): then the BONE stays, "
                + "and his FINES are one more; else it is there, LIES 0 (a crop there is gone).");
        night("", false);
        night("hold 1;far 1;crop 1;bone 1 at 0,0;", false);
        night("found 1=1;", true);
        night("found 1=2;found 1=3;", false);
        night("found 1=2;found 1=1;", true);
        night("found 1=1;found 1=2;", true);
        night("found 1=2;".repeat(19) + "found 1=1;", true);
        // The bone lies in 4 of 3 by 3 for two hours and would go to 5, where it has another beside it.
        night("found x=1 and y=1 and beside=0 and lies=2 and weight=7 and hour=2 and many=0;", true);
        night("found x=2 or lies=0 or beside=1;", false);
        WalkingFences x = new WalkingFences(3, 3);
        x.bone(4, 7);
        Check.rule(x, "found many<100;");
        for (int i = 1; i <= 100; i++) {
            CHECK.due("found once more", x.night(3, 0, 0), 2);
        }
        CHECK.due("100 fines", x.farmer(3, 3), 100);
        CHECK.due("then no more", x.night(3, 0, 0), 1);
        CHECK.due("100 fines still", x.farmer(3, 3), 100);
    }

    private static void night(String law, boolean isFound) {
        WalkingFences x = new WalkingFences(3, 3);
        x.bone(4, 7);
        x.bone(8, 99);
        x.stake(0, 0);
        x.sow(0, 5);
        x.sow(0, 3);
        x.wind(0, 0, 0, 1);
        x.hours(0, 2);
        Check.rule(x, law);
        CHECK.due("night by " + law, x.night(1, 0, 1), isFound ? 2 : 1);
        CHECK.due("cell by " + law, x.of(0, 0), isFound ? 4 : 5);
        CHECK.due("lies by " + law, x.of(0, 2), isFound ? 2 : 0);
        CHECK.due("fines by " + law, x.farmer(1, 3), isFound ? 1 : 0);
        CHECK.due("crop there by " + law, x.cell(5, 3), isFound ? 0 : -1);
        CHECK.due("crops by " + law, x.about(9), isFound ? 2 : 1);
        CHECK.due("hour by " + law, x.about(2), 2);
    }

    private static void rings() {
        DOC.says("RING: the FIELD that a FARMER HAS has no CELL at the border of THE PLAIN.");
        // 4 by 4: the midst of four cells, then each gap in what lies around it.
        WalkingFences x = new WalkingFences(4, 4);
        int[] around = {1, 2, 4, 7, 8, 11, 13, 14};
        for (int c : around) {
            x.bone(c, 5);
        }
        x.stake(0, 5);
        x.stake(1, 10);
        x.stake(2, 0);
        CHECK.due("four cells in the midst", x.cell(5, 1), 4);
        CHECK.due("a ring", x.farmer(0, 1), 1);
        CHECK.due("though it is disputed", x.farmer(1, 1), 1);
        CHECK.due("a corner alone is none", x.farmer(2, 1), 0);
        CHECK.due("none without a stake", x.farmer(3, 1), 0);
        for (int gap = 0; gap < around.length; gap++) {
            WalkingFences y = new WalkingFences(4, 4);
            for (int c : around) {
                if (c != around[gap]) {
                    y.bone(c, 5);
                }
            }
            // The gap alone: it doesn't go on into the corners.
            for (int c : new int[] {0, 3, 12, 15}) {
                y.bone(c, 5);
            }
            y.stake(0, 5);
            CHECK.due("five cells", y.farmer(0, 0), 5);
            CHECK.due("a gap in " + around[gap], y.farmer(0, 1), 0);
        }
        WalkingFences all = new WalkingFences(3, 3);
        all.stake(0, 4);
        CHECK.due("all of the plain is none", all.farmer(0, 1), 0);
    }

    private static void gates() {
        DOC.says("GATES: BONES that have a side to that FIELD and to another one.");
        WalkingFences x = fence();
        x.stake(0, 0);
        x.stake(1, 8);
        CHECK.due("a fence from above", x.farmer(0, 2), 3);
        CHECK.due("and from below", x.farmer(1, 2), 3);
        CHECK.due("none without a stake", x.farmer(2, 2), 0);
        // A second row of bones: none has a side to both.
        x.bone(6, 9);
        x.bone(7, 9);
        x.stake(1, -1);
        x.bone(8, 9);
        CHECK.due("without another field none", x.farmer(0, 2), 0);
        WalkingFences y = new WalkingFences(4, 4);
        for (int c = 4; c < 12; c++) {
            y.bone(c, 9);
        }
        y.stake(0, 0);
        CHECK.due("a fence of two rows has none", y.farmer(0, 2), 0);
        WalkingFences z = new WalkingFences(3, 3);
        z.bone(4, 9);
        z.stake(0, 0);
        CHECK.due("the same field on all sides", z.farmer(0, 2), 0);
        WalkingFences corner = new WalkingFences(3, 3);
        corner.bone(1, 9);
        corner.bone(3, 9);
        corner.stake(0, 0);
        CHECK.due("around a corner", corner.farmer(0, 2), 2);
        corner.bone(4, 9);
        CHECK.due("one by its corner is none", corner.farmer(0, 2), 2);
        // Another field of three around one bone counts it once.
        WalkingFences star = new WalkingFences(3, 3);
        int[] at = {0, 2, 4, 6, 8};
        for (int c : at) {
            star.bone(c, 9);
        }
        star.stake(0, 1);
        CHECK.due("three bones beside it", star.farmer(0, 2), 3);
    }
}
