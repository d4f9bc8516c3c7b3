/** Promises 30 and 31: the image, and the way back to it. */
public final class ImageTest {
    private static final Check CHECK = new Check("image");

    public static void main(String[] args) {
        all();
        textsAndTape();
        CHECK.finish();
    }

    private static WalkingFences told() {
        WalkingFences x = new WalkingFences(5, 3);
        x.bone(6, 10);
        x.bone(7, 99);
        x.stake(0, 0);
        x.stake(1, 14);
        x.well(2, true);
        x.wind(0, 1, 20, 1);
        x.wind(0, 0, 0, 2);
        x.plan(3, 1);
        x.map(1, 8);
        Check.rule(x, "hold weight;found many<1;");
        x.hour(1);
        x.sow(0, 1);
        x.night(2, 0, 0);
        return x;
    }

    private static void same(WalkingFences x, WalkingFences y, String when) {
        for (int what = 0; what < 90; what++) {
            if (what != 8) {
                CHECK.due(when + " about(" + what + ")", x.about(what), y.about(what));
            }
        }
        for (int i = 0; i < 24; i++) {
            for (int what = 0; what < 6; what++) {
                CHECK.due(when + " of(" + i + ", " + what + ")", x.of(i, what), y.of(i, what));
                CHECK.due(when + " cell(" + i + ", " + what + ")", x.cell(i, what), y.cell(i, what));
                CHECK.due(when + " farmer(" + i + ", " + what + ")", x.farmer(i, what), y.farmer(i, what));
            }
        }
        CHECK.due(when + " odds", x.odds(0, -1, 1), y.odds(0, -1, 1));
        CHECK.due(when + " made", x.made(), y.made());
        CHECK.due(when + " calm", x.calm(), y.calm());
    }

    private static void change(WalkingFences x) {
        x.stake(0, -1);
        x.stake(3, 4);
        x.well(2, false);
        x.well(3, true);
        x.wind(1, 0, 30, 9);
        x.plan(3, 0);
        x.plan(4, 2);
        x.map(1, -1);
        x.map(0, 3);
        x.sow(3, 3);
        x.by(-1);
        x.hour(0);
        x.hour(2);
        x.bone(12, 4);
        x.night(2, 0, 0);
        Check.rule(x, "hold 77;");
        x.night(4, 2, 0);
    }

    private static void all() {
        WalkingFences x = told();
        CHECK.due("image()", x.image(), 1);
        change(x);
        CHECK.due("about(2) behind changes", x.about(2), 3);
        CHECK.due("of(0, 3) behind changes", x.of(0, 3), 77);
        CHECK.due("back()", x.back(), 1);
        same(x, told(), "back");
        CHECK.due("fines as they were", x.farmer(2, 3), 1);
        change(x);
        Check.read(x, "far 1;");
        x.draw(0);
        CHECK.due("back() again: the image stays", x.back(), 1);
        same(x, told(), "back again");
        change(x);
        CHECK.due("another image", x.image(), 3);
        x.hour(0);
        CHECK.due("back to the other", x.back(), 3);
        WalkingFences y = told();
        change(y);
        same(x, y, "back to the other");
    }

    private static void textsAndTape() {
        WalkingFences x = new WalkingFences(4, 3);
        x.bone(0, 5);
        Check.rule(x, "hold 11;");
        x.image();
        Check.rule(x, "hold 22;");
        Check.read(x, "hold 33;");
        Check.read(x, "hold 44;");
        Check.read(x, "hold");
        Check.putOnTape(x, "hold 55;");
        CHECK.due("back()", x.back(), 0);
        CHECK.due("texts", x.about(5), 1);
        CHECK.due("the text", x.about(6), 0);
        CHECK.due("the tape isn't of the image", x.about(8), 8);
        CHECK.due("hold", x.of(0, 3), 11);
        CHECK.due("by(1)", x.by(1), false);
        CHECK.due("text() anew", x.text(), 1);
        x.by(1);
        CHECK.due("hold anew", x.of(0, 3), 55);
        Check.read(x, "hold ?");
        x.back();
        CHECK.due("nor is the fault", x.fault(0), 1);
        CHECK.due("nor its place", x.fault(1), 5);
        CHECK.due("hold once more", x.of(0, 3), 11);
    }
}
