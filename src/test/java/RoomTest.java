import java.lang.management.ManagementFactory;

/** Calls make nothing that stays: only a new object and its first texts take room. */
public final class RoomTest {
    public static void main(String[] args) {
        com.sun.management.ThreadMXBean threads =
                (com.sun.management.ThreadMXBean) ManagementFactory.getThreadMXBean();
        long me = Thread.currentThread().getId();
        int answers = use(made());
        long start = threads.getThreadAllocatedBytes(me);
        WalkingFences x = made();
        long ready = threads.getThreadAllocatedBytes(me);
        answers += use(x);
        long used = threads.getThreadAllocatedBytes(me) - ready;
        System.out.println("a new object with texts takes " + (ready - start) + " bytes, all calls of it " + used + " more ("
                + answers + ")");
        // The machine's own bookkeeping makes a little, and a text of four may be new.
        if (ready - start > 60000 || used > 4000) {
            System.out.println("that is too much");
            System.exit(1);
        }
    }

    private static WalkingFences made() {
        WalkingFences x = new WalkingFences(8, 6);
        for (int i = 0; i < 24; i++) {
            x.bone(i * 7 % 48, 20 + i);
        }
        x.stake(0, 1);
        x.stake(1, 46);
        for (int i = 0; i < 6; i++) {
            x.wind(i % 3 - 1, i / 3 * 2 - 1, 40 + i, 1 + i);
            x.plan(i * 5, i);
        }
        for (int i = 0; i < 4; i++) {
            Check.rule(x, "hold weight+lies*2-beside;far strength/10-1;crop age*3;found many<1 and hour>=0;");
        }
        return x;
    }

    private static int use(WalkingFences x) {
        int sum = x.image();
        for (int i = 0; i < 16; i++) {
            sum += x.odds(0, i, 4) + x.mean(1, 4) + x.best(0, 2, 2) + x.time(0, i, 1) + x.keeps(0, 1, i, 40);
            sum += x.calm() + x.disputes(40) + x.made() + x.hours(i, 10) + x.reap(0) + x.night(i % 6, i, i % 4);
            sum += x.about(7) + x.farmer(0, 2) + x.cell(i, 0) + x.of(i, 3) + (x.sow(0, i) ? 1 : 0) + x.image();
            sum += x.back();
        }
        return sum;
    }
}
