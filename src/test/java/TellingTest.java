/** Promises 1 to 6 and 27: what is told. */
public final class TellingTest {
    private static final Check CHECK = new Check("telling");

    public static void main(String[] args) {
        newObject();
        bone();
        stake();
        well();
        wind();
        plan();
        map();
        CHECK.finish();
    }

    private static void size(int w, int h, int width, int height) {
        WalkingFences x = new WalkingFences(w, h);
        CHECK.due("new(" + w + ", " + h + ") about(0)", x.about(0), width);
        CHECK.due("new(" + w + ", " + h + ") about(1)", x.about(1), height);
        CHECK.due("last cell", x.cell(width * height - 1, 1), width * height);
        CHECK.due("behind the last cell", x.cell(width * height, 1), -10);
    }

    private static void newObject() {
        size(2, 2, 3, 3);
        size(3, 3, 3, 3);
        size(5, 4, 5, 4);
        size(8, 6, 8, 6);
        size(9, 7, 8, 6);
        size(Integer.MIN_VALUE, Integer.MAX_VALUE, 3, 6);
        WalkingFences x = new WalkingFences(4, 3);
        int[] nothing = {4, 3, 0, 0, 0, 0, -1, 1, 0, 0};
        for (int what = 0; what < nothing.length; what++) {
            CHECK.due("about(" + what + ")", x.about(what), nothing[what]);
        }
        for (int f = 0; f < 6; f++) {
            CHECK.due("farmer(" + f + ", 5)", x.farmer(f, 5), -1);
            CHECK.due("farmer(" + f + ", 3)", x.farmer(f, 3), 0);
        }
        x.bone(0, 1);
        x.wind(0, 0, 0, 1);
        x.hour(0);
        CHECK.due("back() to the first image", x.back(), 0);
        CHECK.due("bones behind it", x.about(3), 0);
        CHECK.due("winds behind it", x.about(4), 0);
    }

    private static void bone() {
        WalkingFences x = new WalkingFences(8, 6);
        CHECK.due("bone(0, 1)", x.bone(0, 1), 0);
        CHECK.due("bone(47, 99)", x.bone(47, 99), 1);
        CHECK.due("bone(1, 0)", x.bone(1, 0), -1);
        CHECK.due("bone(1, 100)", x.bone(1, 100), -1);
        CHECK.due("bone(-1, 5)", x.bone(-1, 5), -1);
        CHECK.due("bone(48, 5)", x.bone(48, 5), -1);
        CHECK.due("bone(MAX, 5)", x.bone(Integer.MAX_VALUE, 5), -1);
        CHECK.due("bone where one lies", x.bone(47, 5), -1);
        x.stake(3, 20);
        CHECK.due("bone on a stake", x.bone(20, 5), -1);
        x.sow(3, 21);
        CHECK.due("bone on a crop", x.bone(21, 5), 2);
        CHECK.due("the crop is gone", x.about(9), 0);
        CHECK.due("of(2, 2) at first", x.of(2, 2), 0);
        for (int i = 3; i < 24; i++) {
            CHECK.due("bone number " + i, x.bone(i < 20 ? i : i + 4, i), i);
        }
        CHECK.due("the 25th bone", x.bone(40, 5), -1);
        CHECK.due("about(3)", x.about(3), 24);
    }

    private static void stake() {
        WalkingFences x = new WalkingFences(4, 4);
        x.bone(5, 5);
        CHECK.due("stake(0, 0)", x.stake(0, 0), true);
        CHECK.due("stake(5, 15)", x.stake(5, 15), true);
        CHECK.due("stake(1, 0): two in one cell", x.stake(1, 0), true);
        CHECK.due("stake where a bone lies", x.stake(2, 5), false);
        CHECK.due("stake(6, 1)", x.stake(6, 1), false);
        CHECK.due("stake(-1, 1)", x.stake(-1, 1), false);
        CHECK.due("stake(6, -1)", x.stake(6, -1), false);
        CHECK.due("stake(2, 16)", x.stake(2, 16), false);
        CHECK.due("stake(2, -2)", x.stake(2, -2), false);
        CHECK.due("a refused one stays where it was", x.farmer(2, 5), -1);
        CHECK.due("stake(0, 3): it goes", x.stake(0, 3), true);
        CHECK.due("farmer(0, 5)", x.farmer(0, 5), 3);
        CHECK.due("the other stake still keeps the cell", x.bone(0, 5), -1);
        CHECK.due("stake(1, -1)", x.stake(1, -1), true);
        CHECK.due("farmer(1, 5)", x.farmer(1, 5), -1);
        CHECK.due("now the cell is open", x.bone(0, 5), 1);
        CHECK.due("a false stake doesn't move the old", x.stake(0, 0), false);
        CHECK.due("farmer(0, 5) still", x.farmer(0, 5), 3);
    }

    private static void well() {
        WalkingFences x = new WalkingFences(4, 3);
        x.bone(2, 5);
        CHECK.due("well(2, true) under a bone", x.well(2, true), true);
        CHECK.due("cell(2, 4)", x.cell(2, 4), 1);
        CHECK.due("well(11, true)", x.well(11, true), true);
        CHECK.due("well(11, true) again", x.well(11, true), true);
        CHECK.due("cell(11, 4)", x.cell(11, 4), 1);
        CHECK.due("well(11, false)", x.well(11, false), true);
        CHECK.due("cell(11, 4) then", x.cell(11, 4), 0);
        CHECK.due("well(12, true)", x.well(12, true), false);
        CHECK.due("well(-1, true)", x.well(-1, true), false);
        CHECK.due("well(64, true)", x.well(64, true), false);
        CHECK.due("cell(0, 4)", x.cell(0, 4), 0);
    }

    private static void wind() {
        WalkingFences x = new WalkingFences(4, 3);
        int[][] others = {{2, 0, 5, 5}, {-2, 0, 5, 5}, {0, 2, 5, 5}, {0, -2, 5, 5}, {0, 0, -1, 5}, {0, 0, 100, 5},
            {0, 0, 5, -1}, {0, 0, 5, 10}};
        for (int[] o : others) {
            CHECK.due("wind(" + java.util.Arrays.toString(o) + ")", x.wind(o[0], o[1], o[2], o[3]), -1);
        }
        CHECK.due("wind(-1, -1, 0, 0)", x.wind(-1, -1, 0, 0), 0);
        CHECK.due("wind(1, 1, 99, 9)", x.wind(1, 1, 99, 9), 1);
        for (int i = 2; i < 6; i++) {
            CHECK.due("wind number " + i, x.wind(0, 0, 0, i), i);
        }
        CHECK.due("the 7th wind", x.wind(0, 0, 0, 1), -1);
        CHECK.due("about(4)", x.about(4), 6);
        CHECK.due("all chances", x.odds(0, -1, 1), 9 + 2 + 3 + 4 + 5);
    }

    private static void plan() {
        WalkingFences x = new WalkingFences(4, 3);
        CHECK.due("plan(0, 0) without winds", x.plan(0, 0), false);
        CHECK.due("about(10) without winds", x.about(10), 0);
        x.wind(0, 0, 0, 1);
        x.wind(0, 0, 0, 1);
        CHECK.due("plan(0, 1)", x.plan(0, 1), true);
        CHECK.due("plan(39, 1)", x.plan(39, 1), true);
        CHECK.due("plan(40, 1)", x.plan(40, 1), false);
        CHECK.due("plan(-1, 1)", x.plan(-1, 1), false);
        CHECK.due("plan(1, 2)", x.plan(1, 2), false);
        CHECK.due("plan(1, -1)", x.plan(1, -1), false);
        CHECK.due("about(10)", x.about(10), 1);
        CHECK.due("about(11)", x.about(11), 0);
        CHECK.due("about(49)", x.about(49), 1);
        x.hour(0);
        CHECK.due("the plan is from now on: about(10) behind an hour", x.about(10), 1);
        CHECK.due("about(48) behind an hour", x.about(48), 0);
    }

    private static void map() {
        WalkingFences x = new WalkingFences(4, 3);
        CHECK.due("map(0, 0) without bones", x.map(0, 0), false);
        CHECK.due("about(60) without bones", x.about(60), -2);
        x.bone(0, 5);
        x.bone(1, 5);
        CHECK.due("about(60) at first", x.about(60), -1);
        CHECK.due("map(0, 11)", x.map(0, 11), true);
        CHECK.due("map(1, 11): like the other", x.map(1, 11), true);
        CHECK.due("about(60)", x.about(60), 11);
        CHECK.due("map(0, 12)", x.map(0, 12), false);
        CHECK.due("map(0, -2)", x.map(0, -2), false);
        CHECK.due("map(2, 0)", x.map(2, 0), false);
        CHECK.due("map(-1, 0)", x.map(-1, 0), false);
        CHECK.due("about(60) still", x.about(60), 11);
        CHECK.due("map(0, -1)", x.map(0, -1), true);
        CHECK.due("about(60) told no more", x.about(60), -1);
        CHECK.due("about(61)", x.about(61), 11);
    }
}
