import java.util.function.ToIntFunction;

/** Promises 13 to 32, sentence by sentence: where each ends, what it refuses, and that nothing is done then. */
public final class AskingPromisesTest {
    private static final Check CHECK = new Check("promises 13 to 32");
    private static final Document DOC = new Document(CHECK, "Of a BONE: 0 its CELL", "How the state is held");
    private static final int LEAST = Integer.MIN_VALUE;
    private static final int MOST = Integer.MAX_VALUE;
    private static final int[] NO_FARMERS = {-1, -2, 6, 7, LEAST, MOST};
    private static final int[] NO_CELLS = {-2, 12, 13, 64, LEAST, MOST};
    private static final int[] NO_BONES = {-1, -2, 3, 23, 24, LEAST, MOST};

    public static void main(String[] args) {
        of();
        cell();
        farmer();
        hour();
        sow();
        reap();
        night();
        odds();
        mean();
        best();
        time();
        keeps();
        calm();
        disputes();
        map();
        made();
        hours();
        image();
        back();
        about();
        DOC.finish();
        CHECK.finish();
    }

    private static void refused(String call, ToIntFunction<WalkingFences> asked, int want) {
        Look.unchanged(CHECK, call, asked, want);
    }

    /** A bone, a stake, and this many winds without a way. */
    private static WalkingFences bare(int winds) {
        WalkingFences x = new WalkingFences(3, 3);
        x.bone(4, 5);
        x.stake(0, 0);
        for (int i = 0; i < winds; i++) {
            x.wind(0, 0, 0, 1);
        }
        return x;
    }

    private static void of() {
        DOC.says("Of a BONE: 0 its CELL, 1 WEIGHT, 2 LIES, 3 hold as it is now. -10000000 for others.");
        int[][] due = {{0, 10, 2, 20}, {5, 20, 2, 30}, {6, 30, 2, 40}};
        for (int bone = 0; bone < 3; bone++) {
            for (int what = 0; what < 4; what++) {
                int one = bone;
                int asked = what;
                refused("of(" + bone + ", " + what + ")", x -> x.of(one, asked), due[bone][what]);
            }
        }
        for (int bone : NO_BONES) {
            refused("of(" + bone + ", 0)", x -> x.of(bone, 0), -10000000);
            refused("of(" + bone + ", 3)", x -> x.of(bone, 3), -10000000);
        }
        int[] whats = {-1, 4, 5, LEAST, MOST};
        for (int what : whats) {
            refused("of(0, " + what + ")", x -> x.of(0, what), -10000000);
        }
        CHECK.due("without bones", new WalkingFences(3, 3).of(0, 0), -10000000);
        WalkingFences x = bare(1);
        CHECK.due("hold without a text", x.of(0, 3), 5);
        Check.rule(x, "far 1;");
        CHECK.due("hold by a text without", x.of(0, 3), 5);
        Check.rule(x, "hold 0-9999*9999;");
        CHECK.due("the least hold", x.of(0, 3), -1000000);
        Check.rule(x, "hold 9999*9999;");
        CHECK.due("the greatest hold", x.of(0, 3), 1000000);
        CHECK.due("not behind a draw", drawnEmpty().of(0, 0), -10000000);
    }

    private static WalkingFences drawnEmpty() {
        WalkingFences x = bare(0);
        Check.read(x, "");
        x.draw(0);
        return x;
    }

    private static void cell() {
        DOC.says("Of a CELL: 0 its FIELD (its lowest CELL; NONE: a BONE lies there), 1 CELLS of that, 2 who HAVE it (bits), "
                + "3 since which HOUR a crop is there (NONE: none), 4 whether a WELL is there (1, 0). "
                + "-10 for others (1, 2: 0 where a BONE lies).");
        int[][] due = {{0, -1, 0, 0, -1, 0}, {5, -1, 0, 0, -1, 1}, {1, 1, 9, 7, -1, 0}, {2, 1, 9, 7, 1, 1}, {9, 1, 9, 7, 2, 0},
            {11, 1, 9, 7, -1, 0}};
        for (int[] d : due) {
            for (int what = 0; what < 5; what++) {
                int asked = what;
                refused("cell(" + d[0] + ", " + what + ")", x -> x.cell(d[0], asked), d[what + 1]);
            }
        }
        int[] others = {-1, -2, 12, 13, 64, LEAST, MOST};
        int[] whats = {-1, 5, 6, LEAST, MOST};
        for (int other : others) {
            for (int what = 0; what < 5; what++) {
                int asked = what;
                refused("cell(" + other + ", " + what + ")", x -> x.cell(other, asked), -10);
            }
        }
        for (int what : whats) {
            refused("cell(1, " + what + ")", x -> x.cell(1, what), -10);
            refused("cell(0, " + what + ") with a bone", x -> x.cell(0, what), -10);
        }
        WalkingFences x = new WalkingFences(3, 3);
        x.stake(0, 0);
        x.sow(0, 8);
        CHECK.due("since hour 0", x.cell(8, 3), 0);
        x.wind(0, 0, 0, 1);
        Check.toHour(x, 999);
        x.sow(0, 7);
        CHECK.due("since hour 999", x.cell(7, 3), 999);
        CHECK.due("since hour 0 still", x.cell(8, 3), 0);
    }

    private static void farmer() {
        DOC.says("Of a FARMER: 0 AREA, 1 whether his FIELD is a RING (1, 0), 2 GATES, 3 FINES, 4 WELLS in it, 5 his STAKE (NONE). "
                + "-10 for others (1, 2, 4: 0 without a STAKE).");
        int[][] due = {{0, 3, 0, 0, 0, 1, 3}, {1, 3, 0, 0, 0, 1, 8}, {2, 3, 0, 0, 0, 1, 11}, {3, 0, 0, 0, 0, 0, -1},
            {4, 0, 0, 0, 1, 0, -1}, {5, 0, 0, 0, 0, 0, -1}};
        for (int[] d : due) {
            for (int what = 0; what < 6; what++) {
                int asked = what;
                refused("farmer(" + d[0] + ", " + what + ")", x -> x.farmer(d[0], asked), d[what + 1]);
            }
        }
        for (int f : NO_FARMERS) {
            for (int what = 0; what < 6; what++) {
                int asked = what;
                refused("farmer(" + f + ", " + what + ")", x -> x.farmer(f, asked), -10);
            }
        }
        int[] whats = {-1, 6, 7, LEAST, MOST};
        for (int what : whats) {
            refused("farmer(0, " + what + ")", x -> x.farmer(0, what), -10);
            refused("farmer(5, " + what + ") without a stake", x -> x.farmer(5, what), -10);
        }
    }

    private static void hour() {
        DOC.says("AN HOUR by a WIND: how many BONES went. NONE for others, and behind THE HOUR 999.");
        int[] others = {-1, -2, 3, 5, 6, LEAST, MOST};
        for (int wind : others) {
            refused("hour(" + wind + ")", x -> x.hour(wind), -1);
        }
        CHECK.due("none went", Look.told().hour(0), 0);
        CHECK.due("one went", Look.told().hour(2) + bareDown().hour(0), 1);
        WalkingFences all = new WalkingFences(8, 6);
        for (int i = 0; i < 24; i++) {
            all.bone(i, 5);
        }
        all.wind(0, 1, 10, 1);
        CHECK.due("all 24 went", all.hour(0), 24);
        WalkingFences x = bare(1);
        CHECK.due("without winds", bare(0).hour(0), -1);
        Check.toHour(x, 998);
        CHECK.due("at 998", x.hour(0), 0);
        CHECK.due("at 999", x.hour(0), -1);
        CHECK.due("at 999 again", x.hour(0), -1);
        CHECK.due("999 it is", x.about(2), 999);
        CHECK.due("it lies as before", x.of(0, 2), 99);
    }

    /** A bone that goes down by wind 0. */
    private static WalkingFences bareDown() {
        WalkingFences x = new WalkingFences(3, 3);
        x.bone(4, 5);
        x.wind(0, 1, 10, 1);
        return x;
    }

    private static void sow() {
        DOC.says("A FARMER sows a CELL: true. False for others, and where he HAS not its FIELD.");
        for (int f : NO_FARMERS) {
            refused("sow(" + f + ", 1)", x -> Look.bit(x.sow(f, 1)), 0);
        }
        for (int c : NO_CELLS) {
            refused("sow(0, " + c + ")", x -> Look.bit(x.sow(0, c)), 0);
        }
        int[][] hasNot = {{0, -1}, {0, 0}, {0, 5}, {3, 1}, {4, 2}, {5, 9}};
        for (int[] h : hasNot) {
            refused("sow(" + h[0] + ", " + h[1] + ")", x -> Look.bit(x.sow(h[0], h[1])), 0);
        }
        WalkingFences x = Look.told();
        int[] has = {1, 2, 3, 4, 7, 8, 9, 10, 11};
        for (int c : has) {
            CHECK.due("sow(2, " + c + ")", x.sow(2, c), true);
            CHECK.due("sown in " + c, x.cell(c, 3), 2);
        }
        CHECK.due("nine are", x.about(9), 9);
    }

    private static void reap() {
        DOC.says("A FARMER reaps: how much. NONE: his FIELD is DISPUTED, he has no STAKE, and for others.");
        for (int f : NO_FARMERS) {
            refused("reap(" + f + ")", x -> x.reap(f), -1);
        }
        for (int f = 0; f < 6; f++) {
            int one = f;
            refused(f < 3 ? "reap a disputed one" : "reap without a stake", x -> x.reap(one), -1);
        }
        WalkingFences x = Look.told();
        x.stake(1, -1);
        CHECK.due("of two it is disputed, too", x.reap(0), -1);
        x.stake(2, -1);
        CHECK.due("age and 1 of both", x.reap(0), 2 + 1);
        CHECK.due("they are gone", x.about(9), 0);
        CHECK.due("of none", x.reap(0), 0);
    }

    private static void night() {
        DOC.says("NIGHT: 1 the BONE is there, 2 he was FOUND. NONE for others (a BONE that can't be moved so; nothing is done).");
        for (int f : NO_FARMERS) {
            refused("night(" + f + ", 1, 2)", x -> x.night(f, 1, 2), -1);
        }
        for (int bone : NO_BONES) {
            refused("night(0, " + bone + ", 2)", x -> x.night(0, bone, 2), -1);
        }
        int[] steps = {-1, 4, 5, LEAST, MOST};
        for (int step : steps) {
            refused("night(0, 1, " + step + ")", x -> x.night(0, 1, step), -1);
        }
        // Off the plain, onto a bone: he would be found there, too.
        int[][] cant = {{0, 0}, {0, 3}, {1, 1}, {2, 3}};
        for (int[] c : cant) {
            refused("night(0, " + c[0] + ", " + c[1] + ")", x -> x.night(0, c[0], c[1]), -1);
        }
        WalkingFences stake = Look.told();
        stake.stake(5, 10);
        CHECK.due("onto a stake", stake.night(5, 2, 2), -1);
        CHECK.due("no fine for it", stake.farmer(5, 3), 0);
        WalkingFences x = Look.told();
        CHECK.due("found", x.night(4, 1, 2), 2);
        CHECK.due("two fines", x.farmer(4, 3), 2);
        CHECK.due("it stays", x.of(1, 0), 5);
        x.by(-1);
        CHECK.due("not found", x.night(4, 1, 2), 1);
        CHECK.due("it is there", x.of(1, 0), 9);
        CHECK.due("without a stake one works by night, too", x.night(3, 1, 3), -1);
        CHECK.due("but not onto a stake; elsewhere", x.night(3, 1, 1), 1);
        CHECK.due("the crop that was there is gone", x.about(9), 1);
    }

    private static void odds() {
        DOC.says("ODDS for n HOURS: cell NONE: all weight there is. NONE for others.");
        int[] rows = {-1, 5, 6, LEAST, MOST};
        for (int n : rows) {
            refused("odds(0, 1, " + n + ")", x -> x.odds(0, 1, n), -1);
            refused("odds(0, -1, " + n + ")", x -> x.odds(0, -1, n), -1);
        }
        for (int f : NO_FARMERS) {
            refused("odds(" + f + ", 1, 1)", x -> x.odds(f, 1, 1), -1);
            refused("odds(" + f + ", -1, 1)", x -> x.odds(f, -1, 1), -1);
        }
        for (int c : NO_CELLS) {
            refused("odds(0, " + c + ", 1)", x -> x.odds(0, c, 1), -1);
        }
        for (int n = 0; n <= 4; n++) {
            CHECK.due("all weight for " + n, Look.told().odds(5, -1, n), (int) Math.pow(3, n));
            CHECK.due("a stake's cell for " + n, Look.told().odds(0, 3, n), (int) Math.pow(3, n));
            CHECK.due("without a stake for " + n, Look.told().odds(5, 3, n), 0);
        }
        CHECK.due("where a bone lies", Look.told().odds(0, 5, 0), 0);
    }

    private static void mean() {
        DOC.says("MEAN. NONE for others.");
        int[] rows = {-1, 5, 6, LEAST, MOST};
        for (int n : rows) {
            refused("mean(0, " + n + ")", x -> x.mean(0, n), -1);
        }
        for (int f : NO_FARMERS) {
            refused("mean(" + f + ", 0)", x -> x.mean(f, 0), -1);
        }
        CHECK.due("mean now", Look.told().mean(0, 0), 3000);
        CHECK.due("without a stake", Look.told().mean(3, 0), 0);
        CHECK.due("for four hours", bare(6).mean(0, 4), 8000);
        CHECK.due("without winds", bare(0).mean(0, 4), 0);
    }

    private static void best() {
        DOC.says("BEST NIGHT: 0 the BONE, 1 the step, 2 MEAN by it. NONE: none, and for others.");
        int[] rows = {-1, 3, 4, LEAST, MOST};
        int[] whats = {-1, 3, 4, LEAST, MOST};
        for (int n : rows) {
            refused("best(0, " + n + ", 0)", x -> x.best(0, n, 0), -1);
        }
        for (int what : whats) {
            refused("best(0, 0, " + what + ")", x -> x.best(0, 0, what), -1);
        }
        for (int f : NO_FARMERS) {
            refused("best(" + f + ", 0, 0)", x -> x.best(f, 0, 0), -1);
        }
        WalkingFences x = new WalkingFences(3, 3);
        x.bone(8, 5);
        x.bone(1, 5);
        x.bone(3, 5);
        x.stake(0, 0);
        for (int what : whats) {
            CHECK.due("there is one, but not " + what + " of it", x.best(0, 0, what), -1);
        }
        int[] due = {1, 1, 6000};
        for (int what = 0; what < 3; what++) {
            CHECK.due("best(0, 0, " + what + ")", x.best(0, 0, what), due[what]);
            CHECK.due("none without a stake, " + what, x.best(1, 0, what), -1);
            CHECK.due("none without winds, " + what, x.best(0, 1, what), -1);
            CHECK.due("none without bones, " + what, new WalkingFences(3, 3).best(0, 0, what), -1);
        }
    }

    private static void time() {
        DOC.says("TIME to sow. NONE: none, without WINDS, and for others.");
        int[] waits = {-1, 0, 21, 22, 40, LEAST, MOST};
        for (int r : waits) {
            refused("time(0, 1, " + r + ")", x -> x.time(0, 1, r), -1);
        }
        for (int f : NO_FARMERS) {
            refused("time(" + f + ", 1, 1)", x -> x.time(f, 1, 1), -1);
        }
        for (int c : NO_CELLS) {
            refused("time(0, " + c + ", 1)", x -> x.time(0, c, 1), -1);
        }
        refused("time(0, -1, 1)", x -> x.time(0, -1, 1), -1);
        refused("time(0, 1, 1)", x -> x.time(0, 1, 1), 0);
        refused("time(0, 1, 20)", x -> x.time(0, 1, 20), 0);
        refused("none without a stake", x -> x.time(3, 1, 1), -1);
        CHECK.due("without winds", bare(0).time(0, 1, 1), -1);
        CHECK.due("with one", bare(1).time(0, 1, 1), 0);
        CHECK.due("none", bare(1).time(0, 4, 1), -1);
    }

    private static void keeps() {
        DOC.says("KEEPS. NONE: none, without WINDS, and for others.");
        int[] rows = {-1, 0, 41, 42, LEAST, MOST};
        for (int n : rows) {
            refused("keeps(0, 1, 0, " + n + ")", x -> x.keeps(0, 1, 0, n), -1);
        }
        for (int f : NO_FARMERS) {
            refused("keeps(" + f + ", 1, 0, 1)", x -> x.keeps(f, 1, 0, 1), -1);
        }
        for (int c : NO_CELLS) {
            refused("keeps(0, " + c + ", 0, 1)", x -> x.keeps(0, c, 0, 1), -1);
        }
        for (int bone : NO_BONES) {
            refused("keeps(0, 1, " + bone + ", 1)", x -> x.keeps(0, 1, bone, 1), -1);
        }
        refused("keeps(0, -1, 0, 1)", x -> x.keeps(0, -1, 0, 1), -1);
        refused("keeps(0, 1, 0, 1)", x -> x.keeps(0, 1, 0, 1), 0);
        refused("none without a stake", x -> x.keeps(3, 1, 0, 1), -1);
        CHECK.due("without winds", bare(0).keeps(0, 1, 0, 1), -1);
        CHECK.due("with one, for 40", bare(1).keeps(0, 1, 0, 40), 0);
        CHECK.due("none", bare(1).keeps(0, 4, 0, 1), -1);
    }

    private static void calm() {
        DOC.says("CALM. NONE without WINDS.");
        CHECK.due("without winds", bare(0).calm(), -1);
        CHECK.due("with one", bare(1).calm(), 40);
        CHECK.due("in the first hour", bareDown().calm(), 0);
        CHECK.due("without winds and bones", new WalkingFences(3, 3).calm(), -1);
    }

    private static void disputes() {
        DOC.says("DISPUTES (n 0 .. 40). NONE for others, and without WINDS, if n isn't 0.");
        int[] rows = {-1, 41, 42, LEAST, MOST};
        for (int n : rows) {
            refused("disputes(" + n + ")", x -> x.disputes(n), -1);
        }
        refused("disputes(0)", x -> x.disputes(0), 1);
        for (int n = 0; n <= 40; n++) {
            WalkingFences x = bare(1);
            x.stake(1, 8);
            CHECK.due("disputes(" + n + ")", x.disputes(n), n == 0 ? 1 : n);
            CHECK.due("without winds " + n, bare(0).disputes(n), n == 0 ? 0 : -1);
        }
    }

    private static void map() {
        DOC.says("THE MAP tells a BONE's CELL (NONE: nothing): true. False for others.");
        for (int bone : NO_BONES) {
            refused("map(" + bone + ", 1)", x -> Look.bit(x.map(bone, 1)), 0);
            refused("map(" + bone + ", -1)", x -> Look.bit(x.map(bone, -1)), 0);
        }
        for (int c : NO_CELLS) {
            refused("map(1, " + c + ")", x -> Look.bit(x.map(1, c)), 0);
        }
        refused("as it is told already", x -> Look.bit(x.map(1, 4)), 1);
        refused("nothing where nothing is told", x -> Look.bit(x.map(0, -1)), 1);
        WalkingFences x = Look.told();
        for (int c = 0; c < 12; c++) {
            CHECK.due("map(2, " + c + ")", x.map(2, c), true);
            CHECK.due("on the map", x.about(62), c);
        }
        CHECK.due("nothing", x.map(2, -1), true);
        CHECK.due("nothing on it", x.about(62), -1);
        CHECK.due("without bones", new WalkingFences(3, 3).map(0, 0), false);
    }

    private static void made() {
        DOC.says("MADE.");
        // Bone 1 is told in 4: no wind is strong enough for it to go there, as it lies.
        CHECK.due("none", Look.told().made(), 0);
        WalkingFences x = Look.told();
        x.by(-1);
        CHECK.due("by 2", x.made(), 4);
        x.map(1, 5);
        CHECK.due("by 0 and 1", x.made(), 3);
        x.map(1, 9);
        CHECK.due("where none is strong enough to blow it", x.made(), 0);
        CHECK.due("without winds", bare(0).made(), 0);
        CHECK.due("six winds", bare(6).made(), 63);
    }

    private static void hours() {
        DOC.says("n HOURS (1 .. 40) by a SEED: how many went in all (each BONE, each HOUR). NONE for others, if all CHANCES are "
                + "0, and if THE HOUR would go beyond 999.");
        int[] rows = {-1, 0, 41, 42, LEAST, MOST};
        int[] seeds = {-1, 10000, 10001, LEAST, MOST};
        for (int n : rows) {
            refused("hours(0, " + n + ")", x -> x.hours(0, n), -1);
        }
        for (int seed : seeds) {
            refused("hours(" + seed + ", 1)", x -> x.hours(seed, 1), -1);
        }
        WalkingFences none = new WalkingFences(3, 3);
        CHECK.due("without winds", none.hours(0, 1), -1);
        for (int i = 0; i < 6; i++) {
            none.wind(1, 0, 99, 0);
            CHECK.due("all chances 0", none.hours(0, 1), -1);
        }
        CHECK.due("no hour went by", none.about(2), 0);
        WalkingFences all = new WalkingFences(8, 6);
        for (int i = 0; i < 24; i++) {
            all.bone(i, 5);
        }
        all.wind(0, 1, 10, 9);
        CHECK.due("24 bones, three hours each", all.hours(9999, 40), 72);
        for (int left = 1; left <= 40; left += 13) {
            WalkingFences x = bare(1);
            Check.toHour(x, 999 - left);
            CHECK.due("one too many", x.hours(0, left + 1), -1);
            CHECK.due("none went by", x.about(2), 999 - left);
            CHECK.due("just as many", x.hours(0, left), 0);
            CHECK.due("the last", x.about(2), 999);
            CHECK.due("one more", x.hours(0, 1), -1);
        }
    }

    private static void image() {
        DOC.says("THE IMAGE is as all is now: THE HOUR.");
        CHECK.due("of a new one", new WalkingFences(3, 3).image(), 0);
        WalkingFences x = bare(1);
        Check.toHour(x, 999);
        CHECK.due("at 999", x.image(), 999);
        CHECK.due("nothing else is done", x.about(2), 999);
        WalkingFences y = Look.told();
        String before = Look.at(y);
        CHECK.due("at 2", y.image(), 2);
        Look.same(CHECK, "all is as it was", Look.at(y), before);
    }

    private static void back() {
        DOC.says("BACK to THE IMAGE (it stays): THE HOUR.");
        WalkingFences x = bare(1);
        CHECK.due("to the new one", x.back(), 0);
        CHECK.due("without bones", x.about(3), 0);
        WalkingFences y = bare(1);
        y.hours(0, 7);
        y.image();
        for (int i = 0; i < 5; i++) {
            y.hours(0, 40);
            y.bone(8, 5);
            CHECK.due("to 7, as often as one likes", y.back(), 7);
            CHECK.due("the hour", y.about(2), 7);
            CHECK.due("the bones", y.about(3), 1);
        }
        y.hour(0);
        y.image();
        y.hours(0, 3);
        CHECK.due("to the latest", y.back(), 8);
        Check.toHour(y, 999);
        CHECK.due("at the end", y.hour(0), -1);
        CHECK.due("back from there", y.back(), 8);
        CHECK.due("it goes on", y.hour(0), 0);
    }

    private static void about() {
        DOC.says("0 W, 1 H, 2 THE HOUR, 3 BONES, 4 WINDS, 5 TEXTS, 6 THE TEXT (NONE), 7 FIELDS, 8 bytes of the tape, 9 CELLS with "
                + "crops, 10 + k: PLAN of the k-th HOUR, 60 + bone: its CELL on THE MAP (NONE). -2 for others.");
        int[] due = {4, 3, 2, 3, 3, 2, 0, 1, 6, 2};
        for (int what = 0; what < due.length; what++) {
            int asked = what;
            refused("about(" + what + ")", x -> x.about(asked), due[what]);
        }
        WalkingFences x = Look.told();
        for (int k = 0; k < 40; k++) {
            CHECK.due("about(" + (10 + k) + ")", x.about(10 + k), k == 1 ? 2 : k == 39 ? 1 : 0);
        }
        int[] map = {-1, 4, -1};
        for (int bone = 0; bone < 3; bone++) {
            CHECK.due("about(" + (60 + bone) + ")", x.about(60 + bone), map[bone]);
        }
        for (int what = 50; what < 60; what++) {
            CHECK.due("about(" + what + ")", x.about(what), -2);
        }
        for (int what = 63; what < 90; what++) {
            CHECK.due("about(" + what + ")", x.about(what), -2);
        }
        int[] others = {-1, -2, 63, 83, 84, 100, LEAST, MOST};
        for (int what : others) {
            refused("about(" + what + ")", y -> y.about(what), -2);
        }
    }
}
