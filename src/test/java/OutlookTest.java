/** Promises 20 to 26 and 28: what is tried. */
public final class OutlookTest {
    private static final Check CHECK = new Check("outlook");

    public static void main(String[] args) {
        oddsAndMean();
        best();
        time();
        keeps();
        calm();
        disputes();
        made();
        nothingChanges();
        CHECK.finish();
    }

    /** A fence through the midst; one wind of 4 chances opens the upper field, and it stays so. */
    private static WalkingFences fence() {
        WalkingFences x = new WalkingFences(3, 3);
        x.bone(3, 5);
        x.bone(4, 5);
        x.bone(5, 5);
        x.stake(0, 0);
        x.stake(1, 8);
        x.wind(0, 1, 10, 1);
        x.wind(1, 0, 4, 2);
        x.wind(0, 0, 50, 1);
        return x;
    }

    private static void oddsAndMean() {
        WalkingFences x = fence();
        int[] all = {1, 4, 16, 64, 256};
        int[] calm = {1, 3, 9, 27, 81};
        for (int n = 0; n < 5; n++) {
            int open = all[n] - calm[n];
            CHECK.due("odds(0, -1, " + n + ")", x.odds(0, -1, n), all[n]);
            CHECK.due("odds(0, 4, " + n + ")", x.odds(0, 4, n), open);
            CHECK.due("odds(0, 1, " + n + ")", x.odds(0, 1, n), all[n]);
            CHECK.due("odds(1, 7, " + n + ")", x.odds(1, 7, n), calm[n]);
            CHECK.due("odds(0, 5, " + n + "): a bone lies there", x.odds(0, 5, n), 0);
            CHECK.due("odds(2, 0, " + n + "): no stake", x.odds(2, 0, n), 0);
            CHECK.due("mean(0, " + n + ")", x.mean(0, n), (calm[n] * 3 + open * 5) * 1000 / all[n]);
            CHECK.due("mean(1, " + n + ")", x.mean(1, n), (calm[n] * 3 + open) * 1000 / all[n]);
            CHECK.due("mean(2, " + n + ")", x.mean(2, n), 0);
        }
        CHECK.due("mean(0, 3), cut", x.mean(0, 3), 4156);
        int[][] others = {{-1, 0, 1}, {6, 0, 1}, {0, 9, 1}, {0, -2, 1}, {0, 0, -1}, {0, 0, 5}, {6, -1, 1}, {0, -1, 5}};
        for (int[] o : others) {
            CHECK.due("odds of others", x.odds(o[0], o[1], o[2]), -1);
        }
        CHECK.due("mean(-1, 1)", x.mean(-1, 1), -1);
        CHECK.due("mean(6, 1)", x.mean(6, 1), -1);
        CHECK.due("mean(0, -1)", x.mean(0, -1), -1);
        CHECK.due("mean(0, 5)", x.mean(0, 5), -1);
        x.stake(2, 1);
        CHECK.due("a disputed field, cut", x.mean(0, 0), 1000);
        WalkingFences y = new WalkingFences(3, 3);
        y.stake(0, 0);
        CHECK.due("without winds, n 0", y.mean(0, 0), 9000);
        CHECK.due("without winds, n 1", y.mean(0, 1), 0);
        CHECK.due("odds without winds, n 0", y.odds(0, 8, 0), 1);
        CHECK.due("odds without winds, n 1", y.odds(0, 8, 1), 0);
        y.wind(0, 0, 0, 0);
        CHECK.due("of no weight", y.mean(0, 2), 0);
        CHECK.due("the greatest weight", weightOf(9, 6, 4), 54 * 54 * 54 * 54);
    }

    private static int weightOf(int chance, int winds, int n) {
        WalkingFences x = new WalkingFences(8, 6);
        x.stake(0, 0);
        for (int i = 0; i < winds; i++) {
            x.wind(0, 0, 0, chance);
        }
        CHECK.due("mean by the greatest weight", x.mean(0, n), 48000);
        return x.odds(0, 47, n);
    }

    private static void best() {
        WalkingFences x = fence();
        CHECK.due("best(0, 0, 0)", x.best(0, 0, 0), 0);
        CHECK.due("best(0, 0, 1)", x.best(0, 0, 1), 2);
        CHECK.due("best(0, 0, 2)", x.best(0, 0, 2), 4000);
        CHECK.due("best(1, 0, 0)", x.best(1, 0, 0), 1);
        CHECK.due("best(1, 0, 1)", x.best(1, 0, 1), 0);
        CHECK.due("best(1, 0, 2)", x.best(1, 0, 2), 4000);
        CHECK.due("best(2, 0, 0): no stake", x.best(2, 0, 0), -1);
        int[][] others = {{-1, 0, 0}, {6, 0, 0}, {0, -1, 0}, {0, 3, 0}, {0, 0, -1}, {0, 0, 3}};
        for (int[] o : others) {
            CHECK.due("best of others", x.best(o[0], o[1], o[2]), -1);
        }
        Check.rule(x, "found 1=1;");
        CHECK.due("as if not found", x.best(0, 0, 2), 4000);
        CHECK.due("no fine by it", x.farmer(0, 3), 0);
        WalkingFences y = new WalkingFences(3, 3);
        y.bone(8, 5);
        y.stake(0, 0);
        CHECK.due("none brings more", y.best(0, 0, 0), -1);
        CHECK.due("none brings more, its mean", y.best(0, 0, 2), -1);
        // One step makes the bone lie anew, so that this law lets it go in the hour behind it.
        WalkingFences z = new WalkingFences(4, 3);
        z.bone(1, 5);
        z.bone(5, 5);
        z.bone(9, 5);
        z.stake(0, 0);
        z.wind(1, 0, 10, 1);
        z.wind(0, 0, 0, 0);
        z.hour(1);
        Check.rule(z, "hold lies*50;far 1;");
        CHECK.due("mean(0, 1)", z.mean(0, 1), 3000);
        CHECK.due("best(0, 1, 0)", z.best(0, 1, 0), 0);
        CHECK.due("best(0, 1, 1)", z.best(0, 1, 1), 1);
        CHECK.due("best(0, 1, 2)", z.best(0, 1, 2), 9000);
    }

    /** One bone in the midst, a calm wind, one down, one up. */
    private static WalkingFences seesaw() {
        WalkingFences x = new WalkingFences(3, 3);
        x.bone(4, 5);
        x.stake(0, 0);
        x.wind(0, 0, 0, 1);
        x.wind(0, 1, 10, 1);
        x.wind(0, -1, 10, 1);
        return x;
    }

    private static void time() {
        WalkingFences x = seesaw();
        CHECK.due("now", x.time(0, 7, 20), 0);
        CHECK.due("never", x.time(0, 4, 1), -1);
        x.plan(0, 1);
        x.plan(1, 2);
        CHECK.due("not in between", x.time(0, 7, 2), 0);
        CHECK.due("not at once", x.time(0, 7, 1), 2);
        CHECK.due("only behind one hour", x.time(0, 4, 1), -1);
        x.plan(2, 1);
        CHECK.due("behind two", x.time(0, 4, 2), 1);
        CHECK.due("behind three", x.time(0, 4, 1), 3);
        WalkingFences y = seesaw();
        y.plan(25, 1);
        CHECK.due("until 40", y.time(0, 4, 14), 26);
        CHECK.due("not until 41", y.time(0, 4, 15), -1);
        y.plan(25, 0);
        y.plan(38, 1);
        CHECK.due("the last", y.time(0, 4, 1), 39);
        CHECK.due("none behind the last", y.time(0, 4, 2), -1);
        int[][] others = {{-1, 7, 1}, {6, 7, 1}, {0, 9, 1}, {0, -1, 1}, {0, 7, 0}, {0, 7, 21}, {1, 7, 1}};
        for (int[] o : others) {
            CHECK.due("time of others", y.time(o[0], o[1], o[2]), -1);
        }
        WalkingFences z = new WalkingFences(3, 3);
        z.stake(0, 0);
        CHECK.due("time without winds", z.time(0, 0, 1), -1);
    }

    private static void keeps() {
        WalkingFences x = seesaw();
        CHECK.due("calm", x.keeps(0, 7, 0, 40), 0);
        x.plan(0, 1);
        CHECK.due("five more", x.keeps(0, 7, 0, 1), 5);
        CHECK.due("five more for 40", x.keeps(0, 7, 0, 40), 5);
        CHECK.due("where it goes from", x.keeps(0, 4, 0, 1), 0);
        CHECK.due("it isn't asked now", x.keeps(0, 4, 0, 40), 0);
        x.plan(1, 2);
        CHECK.due("behind each of them", x.keeps(0, 4, 0, 2), -1);
        CHECK.due("the same", x.keeps(0, 7, 0, 2), 5);
        int[][] others = {{-1, 7, 0, 1}, {6, 7, 0, 1}, {0, 9, 0, 1}, {0, -1, 0, 1}, {0, 7, 1, 1}, {0, 7, -1, 1},
            {0, 7, 0, 0}, {0, 7, 0, 41}, {1, 7, 0, 1}};
        for (int[] o : others) {
            CHECK.due("keeps of others", x.keeps(o[0], o[1], o[2], o[3]), -1);
        }
        WalkingFences y = new WalkingFences(3, 3);
        y.bone(4, 5);
        y.stake(0, 0);
        CHECK.due("keeps without winds", y.keeps(0, 7, 0, 1), -1);
        y.wind(0, 1, 99, 1);
        CHECK.due("99 in all", y.keeps(0, 7, 0, 1), 94);
        Check.rule(y, "hold weight-1;");
        CHECK.due("more than 99 in all", y.keeps(0, 7, 0, 1), -1);
        CHECK.due("the weight is as before", y.of(0, 1), 5);
    }

    private static void calm() {
        WalkingFences x = seesaw();
        CHECK.due("none goes", x.calm(), 40);
        x.plan(39, 1);
        CHECK.due("in the last", x.calm(), 39);
        x.plan(0, 2);
        CHECK.due("in the first", x.calm(), 0);
        WalkingFences y = new WalkingFences(3, 3);
        y.bone(4, 5);
        CHECK.due("calm without winds", y.calm(), -1);
        y.wind(0, 1, 10, 0);
        Check.rule(y, "hold 20-hour*2;");
        CHECK.due("hold above 9 until hour 6", y.calm(), 6);
        y.wind(0, 0, 0, 1);
        y.hour(1);
        CHECK.due("from now on", y.calm(), 5);
    }

    private static void disputes() {
        WalkingFences x = new WalkingFences(3, 3);
        x.bone(3, 5);
        x.bone(4, 5);
        x.bone(5, 5);
        CHECK.due("none", x.disputes(0), 0);
        x.stake(0, 0);
        x.stake(1, 8);
        CHECK.due("two fields", x.disputes(0), 0);
        CHECK.due("without winds", x.disputes(1), -1);
        x.stake(2, 1);
        x.stake(5, 2);
        CHECK.due("one by three", x.disputes(0), 1);
        x.stake(4, 7);
        CHECK.due("two", x.disputes(0), 2);
        x.wind(0, 0, 0, 1);
        x.wind(-1, 1, 6, 1);
        CHECK.due("now isn't counted", x.disputes(1), 2);
        CHECK.due("each hour", x.disputes(40), 80);
        // The second hour blows one bone to the corner, and all is one field.
        x.plan(1, 1);
        CHECK.due("they come together", x.disputes(4), 2 + 1 + 1 + 1);
        CHECK.due("disputes(-1)", x.disputes(-1), -1);
        CHECK.due("disputes(41)", x.disputes(41), -1);
    }

    private static void made() {
        WalkingFences x = seesaw();
        CHECK.due("nothing told", x.made(), 7);
        x.map(0, 4);
        CHECK.due("calm alone", x.made(), 1);
        x.map(0, 7);
        CHECK.due("down alone", x.made(), 2);
        x.map(0, 1);
        CHECK.due("up alone", x.made(), 4);
        x.map(0, 8);
        CHECK.due("none", x.made(), 0);
        x.bone(2, 90);
        x.map(0, -1);
        x.map(1, 2);
        CHECK.due("the other stays by each", x.made(), 7);
        x.map(0, 1);
        CHECK.due("both", x.made(), 4);
        CHECK.due("without winds", new WalkingFences(3, 3).made(), 0);
    }

    private static void nothingChanges() {
        WalkingFences x = fence();
        x.sow(0, 1);
        x.sow(1, 7);
        x.odds(0, 4, 4);
        x.mean(0, 4);
        x.best(0, 2, 0);
        x.time(0, 4, 3);
        x.keeps(0, 4, 1, 40);
        x.calm();
        x.disputes(40);
        x.made();
        CHECK.due("the hour", x.about(2), 0);
        CHECK.due("crops", x.about(9), 2);
        for (int bone = 0; bone < 3; bone++) {
            CHECK.due("of(" + bone + ", 0)", x.of(bone, 0), 3 + bone);
            CHECK.due("of(" + bone + ", 1)", x.of(bone, 1), 5);
            CHECK.due("of(" + bone + ", 2)", x.of(bone, 2), 0);
        }
    }
}
