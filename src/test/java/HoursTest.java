/** Promises 16 to 19 and 29: hours, crops, nights, and winds by draws. */
public final class HoursTest {
    private static final Check CHECK = new Check("hours");

    public static void main(String[] args) {
        spare();
        ways();
        order();
        fars();
        sparesBeyond();
        cropsUnderBones();
        lastHour();
        sowing();
        reaping();
        nights();
        draws();
        CHECK.finish();
    }

    /** Where a bone of 10 at the left of a plain of 8 lies behind an hour of a wind of this strength. */
    private static void blown(String law, int strength, int cell) {
        WalkingFences x = new WalkingFences(8, 3);
        x.bone(8, 10);
        x.wind(1, 0, strength, 1);
        if (!law.isEmpty()) {
            Check.rule(x, law);
        }
        CHECK.due("hour by " + strength + " " + law, x.hour(0), cell == 8 ? 0 : 1);
        CHECK.due("cell by " + strength + " " + law, x.of(0, 0), cell);
        CHECK.due("lies by " + strength + " " + law, x.of(0, 2), cell == 8 ? 1 : 0);
    }

    private static void spare() {
        blown("", 0, 8);
        blown("", 10, 8);
        blown("", 11, 9);
        blown("", 29, 9);
        blown("", 30, 10);
        blown("", 49, 10);
        blown("", 50, 11);
        blown("", 99, 13);
        blown("hold 0-9999;", 0, 15);
        blown("hold 5;", 5, 8);
        blown("hold 5;", 6, 9);
    }

    private static void fars() {
        blown("far 0;", 50, 8);
        blown("far 0-3;", 50, 8);
        blown("far 2;", 50, 10);
        blown("far 100;", 50, 15);
        blown("far spare/10;", 50, 12);
        blown("far strength/10;", 50, 13);
        blown("far weight-6;", 50, 12);
        blown("far 3;", 10, 8);
        blown("hold 30;far spare-18;", 50, 10);
    }

    /** A bone that holds as little as can be, so that spare is 1000000 and the strength. */
    private static void beyond(String far, int strength, int cell) {
        blown("hold -1000*1000;far " + far + ";", strength, cell);
    }

    private static void sparesBeyond() {
        String less = "-1000*1000";
        beyond("spare" + less, 0, 8);
        beyond("spare" + less, 1, 9);
        beyond("spare" + less, 4, 12);
        beyond("spare" + less, 99, 15);
        // What stands around a name is no step.
        beyond("(spare)" + less, 3, 11);
        beyond("max(spare,0)" + less, 3, 11);
        beyond("min(spare,spare)" + less, 3, 11);
        beyond("--spare" + less, 3, 11);
        beyond("1000*1000+-spare+5", 3, 10);
        beyond("-(" + "-spare)" + less, 3, 11);
        // A step is cut.
        beyond("spare+0" + less, 3, 8);
        beyond("spare-0" + less, 3, 8);
        beyond("spare*1" + less, 3, 8);
        beyond("spare/1" + less, 3, 8);
        beyond("spare/-1+1000*1000+2", 3, 10);
        beyond("-spare/1+1000*1000+2", 3, 10);
        beyond("-spare+0+1000*1000+2", 3, 10);
        beyond("-spare-0+1000*1000+2", 3, 10);
        beyond("0-spare+1000*1000+2", 3, 10);
        beyond("spare/(1000*1000)", 99, 9);
        beyond("spare/(spare-2)", 99, 9);
    }

    private static void ways() {
        int[][] ways = {{0, -1, 6}, {1, -1, 7}, {1, 0, 12}, {1, 1, 17}, {0, 1, 16}, {-1, 1, 15}, {-1, 0, 10}, {-1, -1, 5}};
        for (int[] way : ways) {
            WalkingFences x = new WalkingFences(5, 5);
            x.bone(11, 10);
            x.wind(way[0], way[1], 20, 1);
            CHECK.due("hour by a way", x.hour(0), 1);
            CHECK.due("cell by a way", x.of(0, 0), way[2]);
        }
        WalkingFences x = new WalkingFences(5, 3);
        x.bone(4, 10);
        x.bone(5, 10);
        x.wind(1, 0, 99, 1);
        x.stake(0, 8);
        CHECK.due("one at the border stays", x.hour(0), 1);
        CHECK.due("it doesn't go on in the next row", x.of(0, 0), 4);
        CHECK.due("a stake stops the other", x.of(1, 0), 7);
        CHECK.due("hour(-1)", x.hour(-1), -1);
        CHECK.due("hour(1)", x.hour(1), -1);
        CHECK.due("about(2)", x.about(2), 1);
        x.wind(0, 0, 99, 1);
        CHECK.due("a wind without a way", x.hour(1), 0);
        CHECK.due("lies", x.of(1, 2), 1);
        CHECK.due("about(2)", x.about(2), 2);
        // By corners, too, a stake or a bone in the way stops it.
        WalkingFences y = new WalkingFences(5, 4);
        y.bone(0, 10);
        y.bone(12, 99);
        y.wind(1, 1, 99, 1);
        CHECK.due("by corners", y.hour(0), 1);
        CHECK.due("up to the bone", y.of(0, 0), 6);
    }

    private static void order() {
        WalkingFences x = new WalkingFences(6, 3);
        x.bone(0, 10);
        x.bone(1, 10);
        x.bone(2, 10);
        x.wind(1, 0, 15, 1);
        CHECK.due("the foremost first: all go", x.hour(0), 3);
        CHECK.due("of(0, 0)", x.of(0, 0), 1);
        x.wind(-1, 0, 15, 1);
        CHECK.due("back again", x.hour(1), 3);
        CHECK.due("of(2, 0)", x.of(2, 0), 2);
        // Of like ones the lowest bone: by this law the first that goes makes the other stay.
        WalkingFences y = new WalkingFences(6, 3);
        y.bone(6, 10);
        y.bone(0, 10);
        y.wind(1, 0, 15, 1);
        Check.rule(y, "hold 20-beside*10;far 1;");
        CHECK.due("one of two", y.hour(0), 1);
        CHECK.due("the lower number", y.of(0, 0), 7);
        CHECK.due("the other", y.of(1, 0), 0);
        // What is foremost is as the hour begins, though one overtakes another.
        WalkingFences z = new WalkingFences(8, 3);
        z.bone(0, 10);
        z.bone(9, 10);
        z.bone(18, 10);
        z.wind(1, 0, 15, 1);
        Check.rule(z, "hold weight-x;far 1+(2-x)*3;");
        CHECK.due("three go", z.hour(0), 3);
        CHECK.due("from x 2", z.of(2, 0), 19);
        CHECK.due("from x 1", z.of(1, 0), 13);
        CHECK.due("from x 0", z.of(0, 0), 7);
    }

    private static void cropsUnderBones() {
        WalkingFences x = new WalkingFences(6, 3);
        x.bone(6, 10);
        x.stake(0, 0);
        x.sow(0, 7);
        x.sow(0, 8);
        x.sow(0, 9);
        x.wind(1, 0, 30, 1);
        CHECK.due("two steps", x.hour(0), 1);
        CHECK.due("of(0, 0)", x.of(0, 0), 8);
        CHECK.due("on the way it stays", x.cell(7, 3), 0);
        CHECK.due("where it lies it ends", x.cell(8, 3), -1);
        CHECK.due("beyond it stays", x.cell(9, 3), 0);
        CHECK.due("about(9)", x.about(9), 2);
        x.hour(0);
        CHECK.due("it isn't there behind the bone", x.cell(8, 3), -1);
    }

    private static void lastHour() {
        WalkingFences x = new WalkingFences(4, 3);
        x.wind(0, 0, 0, 1);
        for (int i = 1; i < 25; i++) {
            CHECK.due("hours to " + 40 * i, x.hours(i, 40), 0);
        }
        CHECK.due("beyond 999", x.hours(0, 40), -1);
        x.image();
        CHECK.due("to 999 at once", x.hours(0, 39), 0);
        CHECK.due("about(2)", x.about(2), 999);
        x.back();
        CHECK.due("to 998", x.hours(0, 38), 0);
        CHECK.due("about(2)", x.about(2), 998);
        CHECK.due("two more", x.hours(0, 2), -1);
        CHECK.due("hour to 999", x.hour(0), 0);
        CHECK.due("about(2)", x.about(2), 999);
        CHECK.due("hour behind it", x.hour(0), -1);
        CHECK.due("hours behind it", x.hours(0, 1), -1);
        CHECK.due("about(2) still", x.about(2), 999);
        CHECK.due("what is tried goes on", x.calm(), 40);
        CHECK.due("odds behind it", x.odds(0, -1, 2), 1);
    }

    private static void sowing() {
        WalkingFences x = new WalkingFences(3, 3);
        x.bone(3, 9);
        x.bone(4, 9);
        x.bone(5, 9);
        CHECK.due("sow without a stake", x.sow(0, 0), false);
        x.stake(0, 0);
        x.stake(1, 2);
        CHECK.due("sow in a disputed field", x.sow(0, 2), true);
        CHECK.due("sow where one has not", x.sow(0, 8), false);
        CHECK.due("sow under a bone", x.sow(0, 4), false);
        CHECK.due("sow(0, 9)", x.sow(0, 9), false);
        CHECK.due("sow(0, -1)", x.sow(0, -1), false);
        CHECK.due("sow(0, 64)", x.sow(0, 64), false);
        CHECK.due("sow(6, 0)", x.sow(6, 0), false);
        CHECK.due("sow(-1, 0)", x.sow(-1, 0), false);
        CHECK.due("about(9)", x.about(9), 1);
        x.wind(0, 0, 0, 1);
        x.hour(0);
        CHECK.due("sow anew", x.sow(1, 2), true);
        CHECK.due("what was sown is gone", x.cell(2, 3), 1);
        CHECK.due("about(9)", x.about(9), 1);
    }

    private static void reaping() {
        WalkingFences x = new WalkingFences(3, 3);
        x.bone(3, 9);
        x.bone(4, 9);
        x.bone(5, 9);
        x.wind(0, 0, 0, 1);
        x.stake(0, 0);
        x.stake(1, 2);
        x.stake(2, 8);
        x.sow(0, 0);
        x.sow(1, 2);
        x.sow(2, 6);
        x.hours(0, 5);
        x.sow(0, 1);
        x.hours(0, 2);
        CHECK.due("reap a disputed field", x.reap(0), -1);
        CHECK.due("reap(6)", x.reap(6), -1);
        CHECK.due("reap(-1)", x.reap(-1), -1);
        CHECK.due("reap without a stake", x.reap(3), -1);
        x.stake(1, -1);
        CHECK.due("whoever sowed it", x.reap(0), 7 + 7 + 2);
        CHECK.due("they are gone", x.reap(0), 0);
        CHECK.due("the other field's is not", x.about(9), 1);
        x.well(7, true);
        x.well(8, true);
        x.well(0, true);
        x.image();
        crop(x, "age*100+water*10+area", 723);
        crop(x, "x*10+y", 2);
        crop(x, "0-5", 0);
        crop(x, "9999", 999);
        x.back();
        x.sow(2, 7);
        crop(x, "9999", 1998);
        crop(x, "x*10+y-7", 5);
    }

    /** What farmer 2 reaps by this law; all is as before then. */
    private static void crop(WalkingFences x, String sum, int want) {
        x.image();
        Check.rule(x, "crop " + sum + ";");
        CHECK.due("crop " + sum, x.reap(2), want);
        x.back();
    }

    private static void nights() {
        WalkingFences x = new WalkingFences(4, 4);
        x.bone(5, 9);
        x.bone(6, 9);
        x.bone(0, 9);
        x.stake(0, 9);
        x.wind(0, 0, 0, 1);
        x.hour(0);
        CHECK.due("onto a bone", x.night(0, 0, 1), -1);
        CHECK.due("onto a stake", x.night(0, 0, 2), -1);
        CHECK.due("off the plain, up", x.night(0, 2, 0), -1);
        CHECK.due("off the plain, left", x.night(0, 2, 3), -1);
        int[][] others = {{-1, 0, 0}, {6, 0, 0}, {0, -1, 0}, {0, 3, 0}, {0, 0, -1}, {0, 0, 4}};
        for (int[] o : others) {
            CHECK.due("night of others", x.night(o[0], o[1], o[2]), -1);
        }
        x.sow(0, 1);
        CHECK.due("up", x.night(5, 0, 0), 1);
        CHECK.due("of(0, 0)", x.of(0, 0), 1);
        CHECK.due("of(0, 2)", x.of(0, 2), 0);
        CHECK.due("the crop there is gone", x.about(9), 0);
        CHECK.due("right", x.night(5, 0, 1), 1);
        CHECK.due("of(0, 0)", x.of(0, 0), 2);
        CHECK.due("left", x.night(5, 0, 3), 1);
        CHECK.due("down", x.night(5, 0, 2), 1);
        CHECK.due("of(0, 0)", x.of(0, 0), 5);
        CHECK.due("the hour stays", x.about(2), 1);
        Check.rule(x, "found x=1;");
        x.hour(0);
        CHECK.due("found", x.night(5, 0, 0), 2);
        CHECK.due("it stays", x.of(0, 0), 5);
        CHECK.due("its lies stay", x.of(0, 2), 1);
        CHECK.due("farmer(5, 3)", x.farmer(5, 3), 1);
        CHECK.due("what can't be isn't found", x.night(5, 0, 1), -1);
        CHECK.due("farmer(5, 3)", x.farmer(5, 3), 1);
        CHECK.due("another one is not", x.night(5, 1, 0), 1);
    }

    private static void draws() {
        WalkingFences x = new WalkingFences(8, 3);
        CHECK.due("hours without winds", x.hours(0, 1), -1);
        x.wind(0, 0, 0, 0);
        CHECK.due("hours without chances", x.hours(0, 1), -1);
        x.wind(1, 0, 15, 1);
        x.wind(0, 0, 0, 2);
        x.bone(0, 10);
        int[][] others = {{-1, 1}, {10000, 1}, {0, 0}, {0, 41}, {0, -1}};
        for (int[] o : others) {
            CHECK.due("hours(" + o[0] + ", " + o[1] + ")", x.hours(o[0], o[1]), -1);
        }
        CHECK.due("about(2)", x.about(2), 0);
        // X is 8, 1473, 22884 ..: by 3 chances 2, 0, 0.
        CHECK.due("hours(0, 1)", x.hours(0, 1), 0);
        CHECK.due("hours(0, 3)", x.hours(0, 3), 2);
        CHECK.due("about(2)", x.about(2), 4);
        CHECK.due("of(0, 0)", x.of(0, 0), 2);
        CHECK.due("of(0, 2)", x.of(0, 2), 0);
        // X is 9999 * 3 + 8 = 30005, 2 by 3 chances; then 12602 by (30005 * 179 + 41) mod 30103, 2 again.
        CHECK.due("hours(9999, 2)", x.hours(9999, 2), 0);
        // All of a chance of 9, each bone each hour.
        WalkingFences y = new WalkingFences(8, 3);
        y.wind(1, 0, 15, 9);
        y.bone(0, 10);
        y.bone(9, 10);
        CHECK.due("hours(5, 40)", y.hours(5, 40), 7 + 6);
    }
}
