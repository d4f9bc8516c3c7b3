/** Promises 13, 14, 15 and 32: what can be asked of bones, cells, farmers and the whole. */
public final class LookingTest {
    private static final Check CHECK = new Check("looking");

    public static void main(String[] args) {
        bones();
        cells();
        farmers();
        rings();
        whole();
        CHECK.finish();
    }

    private static void bones() {
        WalkingFences x = new WalkingFences(5, 4);
        CHECK.due("of(0, 0) without bones", x.of(0, 0), -10000000);
        x.bone(6, 30);
        x.bone(19, 31);
        CHECK.due("of(0, 0)", x.of(0, 0), 6);
        CHECK.due("of(1, 0)", x.of(1, 0), 19);
        CHECK.due("of(1, 1)", x.of(1, 1), 31);
        CHECK.due("of(1, 3) without a text", x.of(1, 3), 31);
        x.wind(1, 0, 35, 1);
        x.hour(0);
        CHECK.due("of(0, 2): it went", x.of(0, 2), 0);
        CHECK.due("of(0, 0)", x.of(0, 0), 7);
        CHECK.due("of(1, 2): it lay", x.of(1, 2), 1);
        Check.rule(x, "hold weight*2-lies;");
        CHECK.due("of(1, 3)", x.of(1, 3), 61);
        int[][] others = {{2, 0}, {-1, 0}, {0, 4}, {0, -1}, {24, 0}, {Integer.MIN_VALUE, 0}};
        for (int[] o : others) {
            CHECK.due("of(" + o[0] + ", " + o[1] + ")", x.of(o[0], o[1]), -10000000);
        }
    }

    /** Two columns of bones but for a gap: three fields in a plain of 5 by 3. */
    private static WalkingFences fences() {
        WalkingFences x = new WalkingFences(5, 3);
        // . # . # .
        // . # . # .
        // . . . # .
        int[] at = {1, 6, 3, 8, 13};
        for (int c : at) {
            x.bone(c, 50);
        }
        return x;
    }

    private static void cells() {
        WalkingFences x = fences();
        x.stake(0, 0);
        x.stake(3, 2);
        x.stake(5, 14);
        x.wind(0, 0, 0, 1);
        x.hour(0);
        x.sow(5, 9);
        x.well(9, true);
        int[][] want = {{0, 0, 7, 9, -1, 0}, {7, 0, 7, 9, -1, 0}, {4, 4, 3, 32, -1, 0}, {9, 4, 3, 32, 1, 1},
            {13, -1, 0, 0, -1, 0}};
        for (int[] w : want) {
            for (int what = 0; what < 5; what++) {
                CHECK.due("cell(" + w[0] + ", " + what + ")", x.cell(w[0], what), w[what + 1]);
            }
        }
        int[][] others = {{-1, 0}, {15, 0}, {0, 5}, {0, -1}, {64, 0}, {Integer.MAX_VALUE, 4}};
        for (int[] o : others) {
            CHECK.due("cell(" + o[0] + ", " + o[1] + ")", x.cell(o[0], o[1]), -10);
        }
    }

    private static void farmers() {
        WalkingFences x = fences();
        x.stake(0, 0);
        x.stake(3, 2);
        x.stake(5, 14);
        x.well(12, true);
        x.well(10, true);
        x.well(13, true);
        int[][] want = {{0, 3, 0, 3, 0, 2, 0}, {3, 3, 0, 3, 0, 2, 2}, {5, 3, 0, 3, 0, 0, 14}, {1, 0, 0, 0, 0, 0, -1}};
        for (int[] w : want) {
            for (int what = 0; what < 6; what++) {
                CHECK.due("farmer(" + w[0] + ", " + what + ")", x.farmer(w[0], what), w[what + 1]);
            }
        }
        x.stake(4, 12);
        CHECK.due("area by three, cut", x.farmer(0, 0), 2);
        int[][] others = {{-1, 0}, {6, 0}, {0, 6}, {0, -1}};
        for (int[] o : others) {
            CHECK.due("farmer(" + o[0] + ", " + o[1] + ")", x.farmer(o[0], o[1]), -10);
        }
    }

    private static void rings() {
        WalkingFences x = new WalkingFences(5, 5);
        int[] at = {7, 11, 13, 17, 6};
        for (int c : at) {
            x.bone(c, 50);
        }
        x.stake(0, 12);
        x.stake(1, 0);
        CHECK.due("a ring", x.farmer(0, 1), 1);
        CHECK.due("its gates (the corner is none)", x.farmer(0, 2), 4);
        CHECK.due("its area", x.farmer(0, 0), 1);
        CHECK.due("no ring outside", x.farmer(1, 1), 0);
        CHECK.due("gates outside", x.farmer(1, 2), 4);
        CHECK.due("fields", x.about(7), 2);
        x.stake(0, -1);
        CHECK.due("a ring without a stake", x.farmer(0, 1), 0);
        // Each side of the border opens a ring.
        int[][] border = {{2, 7}, {10, 11}, {14, 13}, {22, 17}};
        for (int[] b : border) {
            WalkingFences z = new WalkingFences(5, 5);
            for (int c = 0; c < 25; c++) {
                if (c != b[0] && c != b[1] && c != 12) {
                    z.bone(c, 50);
                }
            }
            z.stake(0, 12);
            CHECK.due("a field to the border at " + b[0], z.farmer(0, 1), 0);
            z.bone(b[0], 50);
            CHECK.due("a field short of the border at " + b[0], z.farmer(0, 1), 1);
        }
        // Sides alone count, and no row goes on in the next one.
        WalkingFences y = new WalkingFences(3, 3);
        y.bone(1, 5);
        y.bone(3, 5);
        y.bone(5, 5);
        y.bone(7, 5);
        CHECK.due("five fields", y.about(7), 5);
        y.stake(0, 2);
        CHECK.due("one cell alone", y.farmer(0, 0), 1);
        y.stake(1, 4);
        CHECK.due("gates in the midst", y.farmer(1, 2), 4);
        CHECK.due("gates of a corner", y.farmer(0, 2), 2);
        CHECK.due("a ring of one cell", y.farmer(1, 1), 1);
        WalkingFences corner = new WalkingFences(3, 3);
        corner.bone(0, 5);
        corner.bone(4, 5);
        corner.bone(8, 5);
        corner.stake(0, 2);
        CHECK.due("bones in corners are gates, too", corner.farmer(0, 2), 3);
    }

    private static void whole() {
        WalkingFences x = fences();
        x.stake(0, 0);
        x.sow(0, 0);
        x.sow(0, 2);
        x.sow(0, 2);
        x.wind(0, 0, 5, 0);
        x.wind(0, 0, 5, 0);
        x.wind(0, 0, 5, 0);
        x.plan(7, 2);
        x.hour(2);
        Check.read(x, "hold 1;");
        x.by(0);
        x.feed(0, 0, 0, 0, 0);
        int[] want = {5, 3, 1, 5, 3, 1, 0, 2, 20, 2};
        for (int what = 0; what < want.length; what++) {
            CHECK.due("about(" + what + ")", x.about(what), want[what]);
        }
        CHECK.due("about(17)", x.about(17), 2);
        CHECK.due("about(64)", x.about(64), -1);
        x.map(4, 14);
        CHECK.due("about(64) told", x.about(64), 14);
        int[] others = {-1, 50, 59, 65, 83, 84, 100, Integer.MIN_VALUE, Integer.MAX_VALUE};
        for (int what : others) {
            CHECK.due("about(" + what + ")", x.about(what), -2);
        }
        WalkingFences y = new WalkingFences(5, 5);
        for (int c = 0; c < 24; c++) {
            y.bone(c, 1);
        }
        CHECK.due("about(83) with 24 bones", y.about(83), -1);
        CHECK.due("about(84) with 24 bones", y.about(84), -2);
        CHECK.due("one field left", y.about(7), 1);
    }
}
