/** Counts answers that are not the ones that are due, and puts texts onto a tape. */
final class Check {
    private final String name;
    private int wrong = 0;

    Check(String name) {
        this.name = name;
    }

    void due(String call, long got, long want) {
        if (got != want) {
            wrong++;
            System.out.println(name + ": " + call + " answered " + got + ", due is " + want);
        }
    }

    void due(String call, boolean got, boolean want) {
        due(call, got ? 1 : 0, want ? 1 : 0);
    }

    void finish() {
        System.out.println(wrong == 0 ? "all answers are as due" : wrong + " answers are not as due");
        if (wrong != 0) {
            System.exit(1);
        }
    }

    /** The tape is just this text then. */
    static void putOnTape(WalkingFences x, String text) {
        x.end(0);
        for (int i = 0; i < text.length(); i += 20) {
            int[] fives = new int[5];
            for (int k = 0; k < 20; k++) {
                fives[k / 4] = fives[k / 4] << 8 | (i + k < text.length() ? text.charAt(i + k) : 255);
            }
            x.feed(fives[0], fives[1], fives[2], fives[3], fives[4]);
        }
        x.end(text.length());
    }

    static int read(WalkingFences x, String text) {
        putOnTape(x, text);
        return x.text();
    }

    /** The text is read and rules. */
    static void rule(WalkingFences x, String text) {
        x.by(read(x, text));
    }

    /** Goes on by the only winds that have chances; no further than calls of forty hours bring it. */
    static void toHour(WalkingFences x, int hour) {
        for (int i = 0; i < 25 && x.about(2) < hour; i++) {
            x.hours(0, Math.min(40, hour - x.about(2)));
        }
    }
}
