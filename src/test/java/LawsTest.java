/** What sums and asks in texts come to (terms, part II), seen by hold of promise 13 and by promise 19. */
public final class LawsTest {
    private static final Check CHECK = new Check("laws");

    public static void main(String[] args) {
        sums();
        names();
        asks();
        foundNames();
        CHECK.finish();
    }

    private static WalkingFences plain() {
        WalkingFences x = new WalkingFences(5, 4);
        x.bone(7, 13);
        x.bone(8, 50);
        x.bone(12, 50);
        x.bone(6, 50);
        x.bone(1, 50);
        return x;
    }

    private static void sum(String sum, int value) {
        WalkingFences x = plain();
        Check.rule(x, "hold " + sum + ";");
        CHECK.due(sum, x.of(0, 3), value);
    }

    private static void sums() {
        sum("0", 0);
        sum("9999", 9999);
        sum("0012", 12);
        sum("1-2-3", -4);
        sum("1-2+3", 2);
        sum("2+3*4", 14);
        sum("2*3+4*5-6/2", 23);
        sum("10-2*3-1", 3);
        sum("(2+3)*4", 20);
        sum("7/2", 3);
        sum("-7/2", -3);
        sum("7/-2", -3);
        sum("(0-7)/2", -3);
        sum("7/0", 0);
        sum("7/0+5", 5);
        sum("20/3*3", 18);
        sum("8/2/2", 2);
        sum("2*-3", -6);
        sum("2--3", 5);
        sum("--3", 3);
        sum("-(1+2)", -3);
        sum("min(3,2)*10+max(3,2)", 23);
        sum("-min(1+1,2*3)", -2);
        sum("max(-5,min(4,1))", 1);
        sum("9999*9999", 1000000);
        sum("-9999*9999", -1000000);
        sum("9999*9999-1", 999999);
        sum("9999*9999+9999-9999", 990001);
        sum("0-9999*9999-1+1", -999999);
        sum("9999*9999*9999*9999", 1000000);
        sum("-(9999*9999)*9999", -1000000);
        sum("1000*1000+1", 1000000);
        sum("1000*1000", 1000000);
        sum("999*1001", 999999);
    }

    private static void names() {
        sum("weight", 13);
        sum("lies", 0);
        sum("beside", 3);
        sum("x", 2);
        sum("y", 1);
        sum("hour", 0);
        sum("weight*100+x*10+y", 1321);
        besides();
        WalkingFences x = plain();
        Check.rule(x, "hold hour*1000+lies;");
        x.wind(0, 0, 0, 1);
        x.hours(0, 23);
        CHECK.due("hold at 23", x.of(0, 3), 23023);
        x.hour(0);
        CHECK.due("hold at 24", x.of(0, 3), 24);
        x.hours(0, 40);
        x.hours(0, 40);
        CHECK.due("hold at 104: lies stays 99", x.of(0, 3), 8099);
        CHECK.due("of(0, 2)", x.of(0, 2), 99);
    }

    /** A full plain of 3 by 3: corners have 2 beside them, sides 3, the midst 4. */
    private static void besides() {
        WalkingFences x = new WalkingFences(3, 3);
        Check.rule(x, "hold beside;");
        for (int c = 0; c < 9; c++) {
            x.bone(c, 1);
        }
        int[] want = {2, 3, 2, 3, 4, 3, 2, 3, 2};
        for (int c = 0; c < 9; c++) {
            CHECK.due("beside at " + c, x.of(c, 3), want[c]);
        }
    }

    /** Whether one is found by this; if not, the bone has gone to x + 1. */
    private static void ask(String either, boolean so) {
        WalkingFences x = new WalkingFences(5, 4);
        x.bone(7, 13);
        Check.rule(x, "found " + either + ";");
        CHECK.due(either, x.night(1, 0, 1), so ? 2 : 1);
        CHECK.due("cell by " + either, x.of(0, 0), so ? 7 : 8);
        CHECK.due("fines by " + either, x.farmer(1, 3), so ? 1 : 0);
    }

    private static void asks() {
        ask("1<2", true);
        ask("2<2", false);
        ask("2<=2", true);
        ask("3<=2", false);
        ask("3>2", true);
        ask("2>2", false);
        ask("2>=2", true);
        ask("1>=2", false);
        ask("2=2", true);
        ask("1=2", false);
        ask("1#2", true);
        ask("2#2", false);
        ask("not 1=2", true);
        ask("not not 1=2", false);
        ask("not not not 1=2", true);
        ask("1=1 or 1=2 and 1=2", true);
        ask("1=2 and 1=2 or 1=1", true);
        ask("1=2 and 1=1 or 1=2", false);
        ask("1=2 or 1=1 and 1=2", false);
        ask("1=2 or 1=2 or 1=1", true);
        ask("1=1 and 1=1 and 1=2", false);
        ask("not 1=1 or 1=1", true);
        ask("not 1=2 and 1=2", false);
        ask("1=2 or not 1=2 and 1=1 or 1=2", true);
        ask("1+1=2", true);
        ask("1-1=0-0*5", true);
        // One of several found clauses is enough.
        ask("1=2;found 1=1", true);
        ask("1=1;found 1=2", true);
        ask("1=2;found 2=1", false);
    }

    private static void foundNames() {
        ask("weight=13 and lies=0 and beside=0 and x=2 and y=1 and hour=0 and many=0", true);
        ask("x=3", false);
        WalkingFences x = new WalkingFences(5, 4);
        x.bone(7, 13);
        Check.rule(x, "found many<2;");
        CHECK.due("first", x.night(3, 0, 1), 2);
        CHECK.due("second", x.night(3, 0, 1), 2);
        CHECK.due("third", x.night(3, 0, 1), 1);
        CHECK.due("another farmer", x.night(4, 0, 1), 2);
        CHECK.due("farmer(3, 3)", x.farmer(3, 3), 2);
        CHECK.due("farmer(4, 3)", x.farmer(4, 3), 1);
    }
}
