import java.util.function.ToIntFunction;

/** All that can be asked of an object without trying, so that a call that must change nothing can be held to it. */
final class Look {
    private Look() {
    }

    /** On a plain of 4 by 3 with three bones some two hundred calls. */
    static String at(WalkingFences x) {
        StringBuilder all = new StringBuilder();
        for (int what = 0; what < 50; what++) {
            all.append("about ").append(what).append(' ').append(x.about(what)).append('\n');
        }
        for (int bone = 0; bone < x.about(3); bone++) {
            all.append("map ").append(bone).append(' ').append(x.about(60 + bone)).append('\n');
            row(all, "bone", bone, 4, x::of);
        }
        for (int cell = 0; cell < x.about(0) * x.about(1); cell++) {
            row(all, "cell", cell, 5, x::cell);
        }
        for (int farmer = 0; farmer < 6; farmer++) {
            row(all, "farmer", farmer, 6, x::farmer);
        }
        all.append("fault ").append(x.fault(0)).append(' ').append(x.fault(1)).append('\n');
        all.append("chances ").append(x.odds(0, -1, 1)).append('\n');
        return all.toString();
    }

    private interface Asked {
        int of(int one, int what);
    }

    private static void row(StringBuilder all, String name, int one, int kinds, Asked asked) {
        all.append(name).append(' ').append(one);
        for (int what = 0; what < kinds; what++) {
            all.append(' ').append(asked.of(one, what));
        }
        all.append('\n');
    }

    /**
     * Something of each kind is told, and the image is another than now:
     * <pre>
     * 0 . . .    0, 1, 2: bones of 10, 20, 30
     * . 1 2 .    farmer 0 has a stake in 3, farmer 1 in 8, farmer 2 in 11
     * . . . .    wells in 2 and 5, crops in 2 and 9
     * </pre>
     */
    static WalkingFences told() {
        WalkingFences x = new WalkingFences(4, 3);
        x.bone(0, 10);
        x.bone(5, 20);
        x.bone(6, 30);
        x.stake(0, 3);
        x.stake(1, 8);
        x.image();
        x.stake(2, 11);
        x.well(2, true);
        x.well(5, true);
        x.wind(0, 1, 15, 2);
        x.wind(0, 0, 50, 1);
        x.wind(-1, 0, 25, 0);
        x.plan(1, 2);
        x.plan(39, 1);
        x.map(1, 4);
        Check.rule(x, "hold weight+lies*5;far spare/2;crop age+1;found lies>0;bone 5 at 1,1;stake 0 at 0,0;");
        Check.read(x, "bone 7 at 3,0;bone 7 at 3,0;");
        x.hour(1);
        x.night(4, 1, 0);
        x.sow(0, 2);
        x.hour(1);
        x.sow(1, 9);
        Check.read(x, "hold");
        Check.putOnTape(x, "far 1;");
        return x;
    }

    static int bit(boolean answer) {
        return answer ? 1 : 0;
    }

    /** On what is told above this call has this answer, and nothing is another then, nor is the image. */
    static void unchanged(Check check, String call, ToIntFunction<WalkingFences> asked, int want) {
        WalkingFences x = told();
        String before = at(x);
        check.due(call, asked.applyAsInt(x), want);
        same(check, call + " leaves all as it is", at(x), before);
        WalkingFences y = told();
        WalkingFences z = told();
        asked.applyAsInt(y);
        y.back();
        z.back();
        same(check, call + " leaves the image as it is", at(y), at(z));
    }

    /** These looks are alike. */
    static void same(Check check, String what, String got, String want) {
        if (!got.equals(want)) {
            check.due(what, false, true);
            String[] is = got.split("\n");
            String[] due = want.split("\n");
            for (int i = 0; i < Math.min(is.length, due.length); i++) {
                if (!is[i].equals(due[i])) {
                    System.out.println("  " + is[i] + ", due is " + due[i]);
                }
            }
        }
    }

    /** A call that is refused: its answer is what the promise names for that. */
    static void refused(Check check, String call, ToIntFunction<WalkingFences> asked) {
        unchanged(check, call, asked, -1);
    }
}
