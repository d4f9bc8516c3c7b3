import java.util.function.ToIntFunction;

/** The terms, parts IV and V, sentence by sentence: what is tried, maps, draws, images. */
public final class OutlookEdgesTest {
    private static final Check CHECK = new Check("terms IV, V");
    private static final Document TRIED = new Document(CHECK, "What is TRIED", "==== V.");
    private static final Document PLANNED = new Document(CHECK, "By PLAN:", "The constants:");

    public static void main(String[] args) {
        changesNothing();
        beyondTheLastHour();
        weights();
        odds();
        mean();
        best();
        TRIED.finish();
        time();
        keeps();
        calm();
        disputes();
        map();
        made();
        seeds();
        image();
        back();
        PLANNED.finish();
        CHECK.finish();
    }

    private static void tried(String call, ToIntFunction<WalkingFences> asked) {
        Look.unchanged(CHECK, call, asked, asked.applyAsInt(Look.told()));
    }

    private static void changesNothing() {
        TRIED.says("What is TRIED changes nothing (THE HOUR may go beyond 999 in it).");
        for (int n = 0; n <= 4; n++) {
            int row = n;
            tried("odds for " + n, x -> x.odds(0, 1, row));
            tried("mean for " + n, x -> x.mean(1, row));
        }
        for (int n = 0; n <= 2; n++) {
            int row = n;
            tried("best for " + n, x -> x.best(0, row, 2));
        }
        tried("time", x -> x.time(0, 5, 20));
        tried("keeps", x -> x.keeps(0, 5, 1, 40));
        tried("keeps none", x -> x.keeps(0, 8, 2, 40));
        tried("calm", WalkingFences::calm);
        tried("disputes now", x -> x.disputes(0));
        tried("disputes", x -> x.disputes(40));
        tried("made", WalkingFences::made);
    }

    /** A bone that goes only in the hours that are 0 by 24: 1008 is the first one behind 999. */
    private static void beyondTheLastHour() {
        WalkingFences x = new WalkingFences(3, 3);
        x.bone(4, 1);
        x.stake(0, 0);
        x.stake(1, 1);
        x.wind(0, 0, 0, 1);
        x.wind(0, 1, 50, 0);
        for (int k = 0; k < 40; k++) {
            x.plan(k, 1);
        }
        Check.toHour(x, 999);
        Check.rule(x, "hold hour*99;");
        CHECK.due("the hour", x.about(2), 999);
        CHECK.due("calm until 1008", x.calm(), 9);
        CHECK.due("the cell is free behind it", x.time(0, 4, 1), 10);
        CHECK.due("the one below is kept until then", x.keeps(0, 7, 0, 9), 0);
        CHECK.due("and no longer", x.keeps(0, 7, 0, 10), -1);
        CHECK.due("disputes", x.disputes(40), 40);
        CHECK.due("odds", x.odds(0, 7, 4), 1);
        CHECK.due("mean", x.mean(0, 4), 4000);
        CHECK.due("best", x.best(0, 2, 0), -1);
        CHECK.due("made", x.made(), 3);
        CHECK.due("the hour still", x.about(2), 999);
        CHECK.due("none is left", x.hour(0), -1);
    }

    /** Winds without a way, so that all rows are alike. */
    private static WalkingFences chances(int... chances) {
        WalkingFences x = new WalkingFences(3, 3);
        x.stake(0, 0);
        for (int chance : chances) {
            x.wind(0, 0, 0, chance);
        }
        return x;
    }

    private static void weights() {
        TRIED.says("ALL WINDS for n HOURS (0 .. 4): each row of n WINDS has as weight their CHANCES, one times the other.");
        int[][] winds = {{}, {0}, {1}, {9}, {0, 0, 0}, {2, 3}, {0, 4}, {9, 9, 9, 9, 9, 9}};
        int[] sums = {0, 0, 1, 9, 0, 5, 4, 54};
        for (int i = 0; i < winds.length; i++) {
            int weight = 1;
            for (int n = 0; n <= 4; n++) {
                WalkingFences x = chances(winds[i]);
                CHECK.due("all weight of " + sums[i] + " for " + n, x.odds(0, -1, n), weight);
                CHECK.due("each row of it, " + n, x.odds(0, 8, n), weight);
                weight *= sums[i];
            }
            CHECK.due("none for 5 hours", chances(winds[i]).odds(0, -1, 5), -1);
            CHECK.due("none for -1", chances(winds[i]).odds(0, -1, -1), -1);
        }
    }

    /** A bone of 5 in the midst of 3 by 3: wind 0 leaves it there, 1 blows it down, 2 up again. */
    private static WalkingFences seesaw() {
        WalkingFences x = new WalkingFences(3, 3);
        x.bone(4, 5);
        x.stake(0, 0);
        x.wind(0, 0, 0, 1);
        x.wind(0, 1, 10, 2);
        x.wind(0, -1, 10, 4);
        return x;
    }

    private static void odds() {
        TRIED.says("ODDS: of all of that weight that by which a FARMER HAS the FIELD of a CELL then (none lies there).");
        WalkingFences x = seesaw();
        CHECK.due("now a bone lies there", x.odds(0, 4, 0), 0);
        CHECK.due("now none lies there", x.odds(0, 7, 0), 1);
        CHECK.due("it is free by 1 and 2", x.odds(0, 4, 1), 6);
        CHECK.due("free but by 1", x.odds(0, 7, 1), 5);
        CHECK.due("free but by 2", x.odds(0, 1, 1), 3);
        // Behind two hours it lies in the midst by 00, 12, 21.
        CHECK.due("free but by these", x.odds(0, 4, 2), 49 - 1 - 8 - 8);
        CHECK.due("of a farmer without a stake", x.odds(1, 7, 2), 0);
        CHECK.due("of another's stake", twoFields().odds(0, 8, 0), 0);
        CHECK.due("of his own", twoFields().odds(1, 8, 0), 1);
        WalkingFences none = new WalkingFences(3, 3);
        none.stake(0, 0);
        CHECK.due("without winds now", none.odds(0, 8, 0), 1);
        CHECK.due("without winds then", none.odds(0, 8, 1), 0);
    }

    /** Farmer 0 above a fence, farmer 1 below. */
    private static WalkingFences twoFields() {
        WalkingFences x = new WalkingFences(3, 3);
        x.bone(3, 5);
        x.bone(4, 5);
        x.bone(5, 5);
        x.stake(0, 0);
        x.stake(1, 8);
        return x;
    }

    private static void mean() {
        TRIED.says("MEAN: AREA of a FARMER then by all rows, thousandths, cut (of no weight: 0).");
        WalkingFences x = twoFields();
        CHECK.due("now, without winds", x.mean(0, 0), 3000);
        CHECK.due("no weight without winds", x.mean(0, 1), 0);
        x.wind(0, 0, 0, 0);
        CHECK.due("no weight without chances", x.mean(0, 4), 0);
        CHECK.due("now it has one", x.mean(0, 0), 3000);
        // By wind 1 the bones of 3 and 4 go down, and 0 has 5 cells; the stake stops the third.
        x.wind(0, 1, 10, 1);
        x.wind(0, 0, 0, 2);
        CHECK.due("5 and twice 3 by 3, cut", x.mean(0, 1), 3666);
        CHECK.due("1 and twice 3 by 3, cut", x.mean(1, 1), 2333);
        CHECK.due("behind two hours", x.mean(0, 2), (5 * 5 + 4 * 3) * 1000 / 9);
        CHECK.due("without a stake", x.mean(2, 1), 0);
        // An area is cut ahead of the mean: 3 by 2 is 1, 5 by 2 is 2.
        x.stake(2, 2);
        CHECK.due("a disputed one", x.mean(0, 1), (2 + 1 + 1) * 1000 / 3);
        CHECK.due("now", x.mean(2, 0), 1000);
    }

    private static void best() {
        TRIED.says("BEST NIGHT for a FARMER and n HOURS (0 .. 2): the BONE and the step (it is as if not FOUND) by which MEAN is "
                + "greatest, above what it is without; of like ones the lowest BONE, then step; none.");
        // s # . .    By the bone in 5 the field comes to 9 cells, by each of the others to 3.
        // . # . .
        // # . . .
        for (int first = 0; first < 3; first++) {
            WalkingFences x = new WalkingFences(4, 3);
            int[] at = {1, 5, 8};
            for (int i = 0; i < 3; i++) {
                x.bone(at[(i + first) % 3], 5);
            }
            x.stake(0, 0);
            Check.rule(x, "found 1=1;");
            night(x, 0, 0, (4 - first) % 3, 1, 9000);
        }
        // Two bones around a corner, each with two steps that are alike.
        corner(0, 1, 3, 0, 1);
        corner(0, 3, 1, 0, 1);
        corner(8, 7, 5, 0, 0);
        corner(8, 5, 7, 0, 0);
        corner(6, 7, 3, 0, 0);
        corner(2, 1, 5, 0, 2);
        // The stake in the midst leaves the first bone its last step alone.
        WalkingFences left = new WalkingFences(3, 3);
        left.bone(1, 5);
        left.bone(5, 5);
        left.stake(0, 2);
        left.stake(1, 4);
        night(left, 0, 0, 0, 3, 3000);
        WalkingFences alone = new WalkingFences(3, 3);
        alone.bone(4, 5);
        alone.stake(0, 0);
        night(alone, 0, 0, -1, -1, -1);
        night(new WalkingFences(3, 3), 0, 0, -1, -1, -1);
        WalkingFences open = twoFields();
        night(open, 0, 1, -1, -1, -1);
        open.wind(0, 0, 0, 0);
        night(open, 0, 2, -1, -1, -1);
        open.wind(0, 0, 0, 1);
        for (int n = 0; n <= 2; n++) {
            night(open, 0, n, 0, 2, 4000);
        }
        night(open, 0, 3, -1, -1, -1);
        night(open, 0, -1, -1, -1, -1);
        night(open, 2, 0, -1, -1, -1);
    }

    private static void corner(int stake, int bone0, int bone1, int bone, int step) {
        WalkingFences x = new WalkingFences(3, 3);
        x.bone(bone0, 5);
        x.bone(bone1, 5);
        x.stake(3, stake);
        night(x, 3, 0, bone, step, 7000);
    }

    private static void night(WalkingFences x, int farmer, int n, int bone, int step, int mean) {
        CHECK.due("the best bone for " + n, x.best(farmer, n, 0), bone);
        CHECK.due("the best step for " + n, x.best(farmer, n, 1), step);
        CHECK.due("the mean by it for " + n, x.best(farmer, n, 2), mean);
    }

    private static void time() {
        PLANNED.says("By PLAN: TIME to sow: the first HOUR k (0 .. 39) from now on at which a CELL is of the FIELD that a "
                + "FARMER HAS, and is so r HOURS (1 .. 20; k + r at most 40) later again; none.");
        WalkingFences x = seesaw();
        CHECK.due("at once", x.time(0, 7, 1), 0);
        CHECK.due("at once, the longest", x.time(0, 7, 20), 0);
        CHECK.due("never", x.time(0, 4, 1), -1);
        CHECK.due("another's", x.time(1, 7, 1), -1);
        // It is blown down in the k-th hour, and the cell is free from the hour k + 1 on.
        int[][] due = {{0, 1, 1}, {0, 20, 1}, {19, 20, 20}, {20, 20, -1}, {20, 19, 21}, {38, 1, 39}, {38, 2, -1}, {39, 1, -1}};
        for (int[] d : due) {
            WalkingFences y = seesaw();
            y.plan(d[0], 1);
            CHECK.due("free from " + (d[0] + 1) + " on, again behind " + d[1], y.time(0, 4, d[1]), d[2]);
        }
        // Down, up, down, up: free in the hours 1 and 3 alone; what is between them doesn't matter.
        WalkingFences z = seesaw();
        z.plan(0, 1);
        z.plan(1, 2);
        z.plan(2, 1);
        z.plan(3, 2);
        CHECK.due("in the next hour again", z.time(0, 4, 1), -1);
        CHECK.due("behind two", z.time(0, 4, 2), 1);
        CHECK.due("behind three", z.time(0, 4, 3), -1);
        CHECK.due("0 hours", z.time(0, 7, 0), -1);
        CHECK.due("21 hours", z.time(0, 7, 21), -1);
    }

    private static void keeps() {
        PLANNED.says("KEEPS: the least WEIGHT more (0 .. 99; 99 is the most it can have in all) of a BONE, by which a CELL is "
                + "of the FIELD that a FARMER HAS behind each of n HOURS (1 .. 40); none.");
        int[][] due = {{1, 99, 98}, {1, 98, 97}, {1, 1, 0}, {1, 2, 1}, {98, 99, 1}, {99, 99, 0}};
        for (int[] d : due) {
            WalkingFences x = new WalkingFences(3, 3);
            x.bone(4, d[0]);
            x.stake(0, 0);
            x.wind(0, 1, d[1], 0);
            CHECK.due("weight " + d[0] + ", strength " + d[1], x.keeps(0, 7, 0, 1), d[2]);
            Check.rule(x, "hold weight-1;");
            CHECK.due("one more by " + d[0] + ", " + d[1], x.keeps(0, 7, 0, 40), d[1] == 99 ? -1 : d[2] + 1);
        }
        // Only one weight lets it go, and the cell is free then.
        WalkingFences one = new WalkingFences(3, 3);
        one.bone(4, 5);
        one.stake(0, 0);
        one.wind(0, 1, 1, 0);
        Check.rule(one, "hold max(weight-42,42-weight);");
        CHECK.due("42 in all", one.keeps(0, 4, 0, 40), 37);
        WalkingFences x = seesaw();
        x.plan(39, 1);
        CHECK.due("behind 39", x.keeps(0, 7, 0, 39), 0);
        CHECK.due("behind 40", x.keeps(0, 7, 0, 40), 5);
        CHECK.due("where it lies", x.keeps(0, 4, 0, 1), -1);
        x.plan(0, 1);
        CHECK.due("not asked now, where it lies", x.keeps(0, 4, 0, 39), 0);
        x.plan(20, 2);
        CHECK.due("behind each", x.keeps(0, 4, 0, 21), -1);
        CHECK.due("until it is back", x.keeps(0, 4, 0, 20), 0);
        CHECK.due("0 hours", x.keeps(0, 7, 0, 0), -1);
        CHECK.due("41 hours", x.keeps(0, 7, 0, 41), -1);
    }

    private static void calm() {
        PLANNED.says("CALM: how many HOURS of PLAN go by until in one some BONE goes (40: none does).");
        CHECK.due("none does", seesaw().calm(), 40);
        for (int k = 0; k < 40; k++) {
            WalkingFences x = seesaw();
            x.plan(k, 1);
            CHECK.due("in the hour " + k, x.calm(), k);
        }
        WalkingFences bare = new WalkingFences(3, 3);
        CHECK.due("without winds", bare.calm(), -1);
        bare.wind(1, 1, 99, 9);
        CHECK.due("without bones", bare.calm(), 40);
        bare.bone(8, 1);
        CHECK.due("with one that can't go", bare.calm(), 40);
        bare.bone(0, 1);
        CHECK.due("with one that can", bare.calm(), 0);
    }

    private static void disputes() {
        PLANNED.says("DISPUTES: FIELDS that are DISPUTED, now (n 0), or behind each of n HOURS, together.");
        WalkingFences x = new WalkingFences(8, 3);
        CHECK.due("none now", x.disputes(0), 0);
        int[] fence = {2, 10, 18, 5, 13, 21};
        for (int c : fence) {
            x.bone(c, c == 10 ? 40 : 60);
        }
        int[] stakes = {0, 9, 3, 20, 7, 23};
        for (int f = 0; f < 6; f++) {
            x.stake(f, stakes[f]);
            CHECK.due("disputed by " + (f + 1), x.disputes(0), (f + 1) / 2);
        }
        CHECK.due("without winds then", x.disputes(1), -1);
        x.wind(0, 0, 0, 0);
        CHECK.due("behind one", x.disputes(1), 3);
        CHECK.due("behind 40, together", x.disputes(40), 120);
        CHECK.due("behind 41", x.disputes(41), -1);
        CHECK.due("behind -1", x.disputes(-1), -1);
        // In the last hour a bone goes two steps, and two of the fields are one.
        x.wind(1, 0, 60, 0);
        x.plan(39, 1);
        CHECK.due("now isn't counted, the last is", x.disputes(40), 39 * 3 + 2);
        CHECK.due("but the last", x.disputes(39), 39 * 3);
    }

    private static void map() {
        PLANNED.says("A MAP: CELLS of BONES as told (those of which nothing is told may be anywhere; at first all).");
        WalkingFences x = new WalkingFences(5, 5);
        for (int bone = 0; bone < 24; bone++) {
            x.bone(bone, 5);
            CHECK.due("at first nothing of " + bone, x.about(60 + bone), -1);
        }
        x.wind(0, 0, 0, 1);
        CHECK.due("all may be anywhere", x.made(), 1);
        for (int bone = 0; bone < 24; bone++) {
            CHECK.due("told of " + bone, x.map(bone, 24 - bone), true);
            CHECK.due("as told of " + bone, x.about(60 + bone), 24 - bone);
            x.map(bone, -1);
        }
        CHECK.due("nothing again", x.made(), 1);
        x.map(3, 3);
        x.map(23, 23);
        CHECK.due("where they are", x.made(), 1);
        x.map(22, 24);
        CHECK.due("one elsewhere", x.made(), 0);
        x.map(22, 23);
        CHECK.due("two in one cell can't be", x.made(), 0);
    }

    private static void made() {
        PLANNED.says("MADE: by which of the WINDS (bits) BONES are as on THE MAP behind one HOUR.");
        WalkingFences x = new WalkingFences(3, 3);
        CHECK.due("without winds", x.made(), 0);
        int[][] ways = {{0, -1}, {1, 0}, {0, 1}, {-1, 0}, {0, 0}, {1, 1}};
        for (int i = 0; i < 6; i++) {
            x.wind(ways[i][0], ways[i][1], 10, 0);
            CHECK.due("without bones all of them", x.made(), (2 << i) - 1);
        }
        x.bone(4, 5);
        int[] cells = {1, 5, 7, 3, 4, 8};
        for (int i = 0; i < 6; i++) {
            x.map(0, cells[i]);
            CHECK.due("to " + cells[i], x.made(), 1 << i);
        }
        x.map(0, 0);
        CHECK.due("by none", x.made(), 0);
        x.map(0, -1);
        CHECK.due("anywhere", x.made(), 63);
        x.bone(2, 99);
        x.map(1, 2);
        CHECK.due("one that stays by all", x.made(), 63);
        x.map(0, 4);
        CHECK.due("both stay", x.made(), 16);
    }

    private static void seeds() {
        PLANNED.says("HOURS by a SEED: X is SEED (0 .. 9999) * 3 + 8; each HOUR the WIND is drawn: X mod all CHANCES falls into "
                + "one, by number; X is (X * 179 + 41) mod 30103 then.");
        int[][] chances = {{1}, {0, 1}, {1, 0, 0}, {1, 1}, {0, 3, 0, 1, 9, 0}, {9, 9, 9, 9, 9, 9}, {2, 0, 5, 0, 0, 1}};
        int[] seeds = {0, 1, 2, 3, 77, 4999, 9998, 9999};
        for (int[] row : chances) {
            for (int wind = 0; wind < row.length; wind++) {
                for (int seed : seeds) {
                    drawn(row, wind, seed, 1);
                    drawn(row, wind, seed, 2);
                    drawn(row, wind, seed, 40);
                }
            }
        }
        WalkingFences x = chances(1);
        CHECK.due("seed -1", x.hours(-1, 1), -1);
        CHECK.due("seed 10000", x.hours(10000, 1), -1);
        CHECK.due("0 hours", x.hours(0, 0), -1);
        CHECK.due("41 hours", x.hours(0, 41), -1);
        CHECK.due("none went by", x.about(2), 0);
    }

    /** Of these winds only one has a way: a bone goes a step in each hour in which it is drawn, and has room for 7. */
    private static void drawn(int[] chances, int wind, int seed, int n) {
        WalkingFences x = new WalkingFences(8, 3);
        x.bone(0, 1);
        int all = 0;
        for (int i = 0; i < chances.length; i++) {
            x.wind(i == wind ? 1 : 0, 0, 2, chances[i]);
            all += chances[i];
        }
        long number = seed * 3L + 8;
        int times = 0;
        for (int i = 0; i < n; i++) {
            long lot = number % all;
            int drawn = 0;
            while (lot >= chances[drawn]) {
                lot -= chances[drawn];
                drawn++;
            }
            times += drawn == wind ? 1 : 0;
            number = (number * 179 + 41) % 30103;
        }
        CHECK.due("wind " + wind + " by seed " + seed + " in " + n, x.hours(seed, n), Math.min(7, times));
        CHECK.due("hours by seed " + seed, x.about(2), n);
    }

    /** What of a look belongs to the image. */
    private static String ofImage(WalkingFences x) {
        return Look.at(x).replaceAll("about 8 .*\n", "").replaceAll("fault .*\n", "");
    }

    private static void image() {
        PLANNED.says("AN IMAGE: all as it is, but the tape and the latest FAULT.");
        WalkingFences x = Look.told();
        String before = ofImage(x);
        CHECK.due("image", x.image(), 2);
        Look.same(CHECK, "an image changes nothing", Look.at(x), Look.at(Look.told()));
        CHECK.due("looks are of something", before.length() > 500, true);
        WalkingFences y = Look.told();
        y.image();
        change(y);
        CHECK.due("the tape behind changes", y.about(8), 3);
        CHECK.due("the fault behind changes", y.fault(0), 0);
        CHECK.due("back", y.back(), 2);
        CHECK.due("the tape isn't of it", y.about(8), 3);
        CHECK.due("nor the fault", y.fault(0), 0);
        CHECK.due("nor its place", y.fault(1), -1);
        Look.same(CHECK, "all else is", ofImage(y), before);
        CHECK.due("the tape's bytes are as fed behind it", y.text(), -1);
        CHECK.due("they are no text", y.fault(1), 0);
    }

    /** Changes each thing that an image holds, and the tape and the fault. */
    private static void change(WalkingFences x) {
        x.bone(7, 40);
        x.stake(0, 2);
        x.stake(1, -1);
        x.well(5, false);
        x.well(0, true);
        x.wind(1, 1, 99, 9);
        x.plan(0, 3);
        x.plan(39, 0);
        x.map(1, -1);
        x.map(0, 11);
        Check.rule(x, "hold 77;found many<5;");
        x.night(4, 3, 0);
        x.hour(3);
        x.sow(0, 2);
        x.by(0);
        x.reap(2);
        x.hours(5, 6);
        x.draw(0);
        x.bone(7, 41);
        Check.putOnTape(x, "foo");
    }

    private static void back() {
        PLANNED.says("BACK: all is so again.");
        WalkingFences x = new WalkingFences(4, 3);
        CHECK.due("back at first", x.back(), 0);
        Look.same(CHECK, "back at first", Look.at(x), Look.at(new WalkingFences(4, 3)));
        WalkingFences y = Look.told();
        y.image();
        for (int i = 0; i < 3; i++) {
            change(y);
            CHECK.due("back once more", y.back(), 2);
        }
        Look.same(CHECK, "the third time, too", ofImage(y), ofImage(Look.told()));
        // What goes on from there goes as it went the first time.
        WalkingFences z = Look.told();
        change(z);
        change(y);
        Look.same(CHECK, "on from there", ofImage(y), ofImage(z));
    }
}
