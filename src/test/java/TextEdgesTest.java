import java.util.List;
import java.util.Set;

/** The terms, part II, sentence by sentence: texts, what they come to, their faults, what is drawn by them. */
public final class TextEdgesTest {
    private static final Check CHECK = new Check("terms II");
    private static final Document DOC = new Document(CHECK, "TEXTS 0 .. 3:", "==== III.");
    private static final String[] NAMES = {"weight", "lies", "beside", "x", "y", "hour", "strength", "spare", "many", "age",
        "area", "water"};
    private static final Set<String> OF_BONES = Set.of("weight", "lies", "beside", "x", "y", "hour");
    private static final Set<String> OF_CROPS = Set.of("age", "x", "y", "area", "water");
    private static final String[] TOKENS = ("hold far crop found bone stake at and or not min max weight x age foo HOLD 7 "
            + "<= >= < > = # + - * / ( ) , ; ! . [ _ \" \t").split(" ");
    private static final String ONES = "min max weight x 7 ( -";
    private static final String STEPS = "+ - * /";

    public static void main(String[] args) {
        texts();
        blanks();
        tokens();
        clauses();
        eachOnce();
        eithers();
        sums();
        names();
        steps();
        bothSides();
        faults();
        faultOne();
        faultTwo();
        faultThree();
        faultFour();
        faultFive();
        faultSix();
        theText();
        drawn();
        DOC.finish();
        CHECK.finish();
    }

    /** A text of which this is due; fault 0: none, at NONE. */
    private static void read(String text, int fault, int place) {
        WalkingFences x = new WalkingFences(3, 3);
        CHECK.due("text " + text, Check.read(x, text), fault == 0 ? 0 : -1);
        CHECK.due("fault of " + text, x.fault(0), fault);
        CHECK.due("place of " + text, x.fault(1), place);
        CHECK.due("texts by " + text, x.about(5), fault == 0 ? 1 : 0);
    }

    private static void sound(String text) {
        read(text, 0, -1);
    }

    private static void texts() {
        DOC.says("TEXTS 0 .. 3: of up to 300 bytes.");
        WalkingFences x = new WalkingFences(3, 3);
        for (int i = 0; i < 4; i++) {
            CHECK.due("text " + i, Check.read(x, "hold " + i + ";"), i);
        }
        CHECK.due("no fifth", Check.read(x, "hold 4;"), -1);
        x.bone(0, 5);
        for (int i = 0; i < 4; i++) {
            x.by(i);
            CHECK.due("each is as it was told", x.of(0, 3), i);
        }
        sound("");
        sound("hold 1" + " ".repeat(293) + ";");
        read("hold 1" + " ".repeat(294), 1, 300);
        sound("hold " + "1+".repeat(146) + "11;");
        read("hold " + "1+".repeat(147) + "1", 1, 300);
        mostTokens();
        WalkingFences full = new WalkingFences(3, 3);
        Check.putOnTape(full, " ".repeat(300));
        CHECK.due("no byte more than 300", full.feed(0, 0, 0, 0, 0), -1);
        CHECK.due("300 blanks are a text", full.text(), 0);
        String blanks = " ".repeat(299);
        for (String last : new String[] {"!", "7", ";", "<", "h"}) {
            read(blanks + last, 1, 299);
        }
        for (String last : new String[] {"hold", "hol", "min", "7", "<", ">="}) {
            read("hold" + " ".repeat(296 - last.length()) + last, 1, last.equals("7") || last.equals("min") ? 300
                    : 300 - last.length());
        }
    }

    /** No text has more tokens: three bytes for the first, one for each other. It comes to 145. */
    private static void mostTokens() {
        String text = "far-(1" + "-1".repeat(146) + ");";
        CHECK.due("bytes", text.length(), 300);
        sound(text);
        WalkingFences x = new WalkingFences(8, 3);
        x.bone(0, 5);
        x.wind(1, 0, 6, 1);
        Check.rule(x, text);
        x.hour(0);
        CHECK.due("as far as the plain", x.of(0, 0), 7);
    }

    private static void blanks() {
        DOC.says("TOKENS, blanks (32, 10) aside:");
        sound(" ");
        sound("\n");
        sound(" \n hold \n 1 \n ; \n ");
        for (int b = 0; b < 256; b++) {
            boolean aside = b == 32 || b == 10;
            String text = "hold 1;" + (char) b;
            if (aside) {
                sound(text);
            } else {
                read(text, 1, 7);
            }
        }
        // They part what would hang together else.
        read("ho ld 1;", 1, 0);
        read("hold 1 2;", 1, 7);
        read("found 1< =1;", 1, 9);
        read("found 1\n> \n=1;", 1, 11);
    }

    private static void tokens() {
        DOC.says("letters a .. z, A .. Z one behind the other (one TOKEN), digits likewise (NUMBERS, 0 .. 9999), "
                + "<= >= < > = # + - * / ( ) , ; (the longest).");
        for (char c : new char[] {'a', 'z', 'A', 'Z'}) {
            read("hold" + c + " 1;", 1, 0);
            read("hold 1" + c + ";", 1, 6);
        }
        for (char c : new char[] {'a' - 1, 'z' + 1, 'A' - 1, 'Z' + 1}) {
            read("hold" + c + " 1;", 1, 4);
        }
        sound("bone1at2,3;");
        sound("found 1=1or 2=2and 3=3;");
        sound("hold 0;");
        sound("hold 9999;");
        sound("hold 00000000009999;");
        read("hold 10000;", 2, 5);
        read("hold 0010000;", 2, 5);
        read("hold 4294967296;", 2, 5);
        read("hold " + "9".repeat(200) + ";", 2, 5);
        for (char c : new char[] {'0' - 1, '9' + 1}) {
            read("hold 1" + c + ";", 1, c == '/' ? 7 : 6);
        }
        for (String s : new String[] {"<", "<=", ">", ">=", "=", "#"}) {
            sound("found 1" + s + "1;");
        }
        read("found 1==1;", 1, 8);
        read("found 1<=<1;", 1, 9);
        read("found 1=>1;", 1, 8);
        read("found 1=<1;", 1, 8);
        read("found 1<>1;", 1, 8);
        read("found 1##1;", 1, 8);
    }

    private static void clauses() {
        DOC.says("{CLAUSE}, 20 at most:");
        String[] kinds = {"found 1=1;", "bone 1 at 0,0;", "stake1at 0,0;"};
        sound("");
        for (String kind : kinds) {
            sound(kind);
            sound(kind.repeat(19));
            sound(kind.repeat(20));
            read(kind.repeat(20) + kind.substring(0, 5), 6, kind.length() * 20);
        }
        sound("hold 1;far 1;crop 1;" + kinds[0].repeat(17));
        read("hold 1;far 1;crop 1;" + kinds[0].repeat(18), 6, 190);
    }

    private static void eachOnce() {
        DOC.says("hold SUM ; or far SUM ; or crop SUM ; (each once) or found EITHER ; or bone NUMBER at NUMBER , NUMBER ; "
                + "or stake NUMBER at NUMBER , NUMBER ;.");
        stand("", "hold far crop found bone stake");
        stand("hold 1;", "far crop found bone stake hold");
        stand("found 1=1;", "hold far crop found bone stake");
        for (String kind : new String[] {"hold", "far", "crop"}) {
            sound(kind + " 1;");
            read(kind + " 1", 1, kind.length() + 2);
            read(kind + ";", 1, kind.length());
            read(kind, 1, kind.length());
            read(kind + " 1=1;", 1, kind.length() + 2);
        }
        for (String kind : new String[] {"bone", "stake"}) {
            stand(kind, "7");
            stand(kind + " 1", "at");
            stand(kind + " 1 at", "7");
            stand(kind + " 1 at 1", ",");
            stand(kind + " 1 at 1,", "7");
            stand(kind + " 1 at 1,1", ";");
            stand(kind + " 1 at 1,1;", "hold far crop found bone stake");
            sound(kind + " 1 at 1,1;" + kind + " 1 at 1,1;");
        }
        sound("hold 1;far 1;crop 1;found 1=1;bone 1 at 1,1;stake 1 at 1,1;");
        sound("stake 1 at 1,1;bone 1 at 1,1;found 1=1;crop 1;far 1;hold 1;");
    }

    /** Behind this beginning of a text just these tokens can stand: of others fault 1 is told, at the token. */
    private static void stand(String begin, String can) {
        List<String> allowed = List.of(can.split(" "));
        int place = begin.length() + 1;
        for (String token : TOKENS) {
            WalkingFences x = new WalkingFences(3, 3);
            Check.read(x, begin + " " + token);
            boolean refused = x.fault(0) == 1 && x.fault(1) == place;
            boolean hasToken = token.equals("age") && allowed.contains("x");
            CHECK.due("'" + begin + "' then '" + token + "' is refused", refused, !hasToken && !allowed.contains(token));
        }
    }

    private static void eithers() {
        DOC.says("EITHER: BOTH {or BOTH}. BOTH: ASK {and ASK}. ASK: not ASK, or SUM one of < <= > >= = # (unlike) SUM.");
        String asks = ONES + " not";
        String unlike = "< <= > >= = #";
        stand("found", asks);
        stand("found not", asks);
        stand("found not not", asks);
        stand("found 1", STEPS + " " + unlike);
        stand("found not 1", STEPS + " " + unlike);
        for (String sign : unlike.split(" ")) {
            stand("found 1" + sign, ONES);
        }
        stand("found 1=1", STEPS + " and or ;");
        stand("found 1=1 or", asks);
        stand("found 1=1 and", asks);
        stand("found 1=1 or 1=1", STEPS + " and or ;");
        stand("found 1=1 and 1=1", STEPS + " and or ;");
        found("1=2 or 1=1 or 1=2", true);
        found("1=2 or 1=2 or 1=1", true);
        found("1=1 or 1=2 or 1=2", true);
        found("1=2 or 1=2 or 1=2", false);
        found("1=1 and 1=2 and 1=1", false);
        found("1=1 and 1=1 and 1=1", true);
        found("1=2 and 1=1 or 1=1", true);
        found("1=1 or 1=1 and 1=2", true);
        found("1=2 or 1=2 and 1=1", false);
        found("not 1=2 and 1=2", false);
        found("not 1=1 or 1=1", true);
        // For each sign whether 1, 2 and 3 are so to 2.
        String[][] asked = {{"<", "100"}, {"<=", "110"}, {">", "001"}, {">=", "011"}, {"=", "010"}, {"#", "101"}};
        for (String[] a : asked) {
            for (int i = 0; i < 3; i++) {
                boolean so = a[1].charAt(i) == '1';
                found((i + 1) + a[0] + "2", so);
                found("not " + (i + 1) + a[0] + "2", !so);
            }
        }
    }

    private static void found(String either, boolean so) {
        WalkingFences x = new WalkingFences(3, 3);
        x.bone(4, 5);
        Check.rule(x, "found " + either + ";");
        CHECK.due("found " + either, x.night(0, 0, 1), so ? 2 : 1);
    }

    private static void sums() {
        DOC.says("SUM: PRODUCT {+ or - PRODUCT}. PRODUCT: ONE {* or / ONE}. ONE: NUMBER, NAME, ( SUM ), - ONE, or "
                + "min ( SUM , SUM ) or max ( SUM , SUM ).");
        stand("hold", ONES);
        stand("hold 1", STEPS + " ;");
        stand("hold x", STEPS + " ;");
        for (String step : STEPS.split(" ")) {
            stand("hold 1" + step, ONES);
        }
        stand("hold -", ONES);
        stand("hold -1", STEPS + " ;");
        stand("hold (", ONES);
        stand("hold (1", STEPS + " )");
        stand("hold (1)", STEPS + " ;");
        for (String kind : new String[] {"min", "max"}) {
            stand("hold " + kind, "(");
            stand("hold " + kind + "(", ONES);
            stand("hold " + kind + "(1", STEPS + " ,");
            stand("hold " + kind + "(1,", ONES);
            stand("hold " + kind + "(1,2", STEPS + " )");
            stand("hold " + kind + "(1,2)", STEPS + " ;");
        }
        held("1+2*3", 7);
        held("2*3+1", 7);
        held("-2*3", -6);
        held("(1+2)*3", 9);
        held("min(1+1,2+2)*max(3-1,1)", 4);
        held("-(-(-5))", -5);
        held("-min(3,4)", -3);
    }

    private static void held(String sum, int want) {
        WalkingFences x = new WalkingFences(3, 3);
        x.bone(4, 13);
        Check.rule(x, "hold " + sum + ";");
        CHECK.due("hold " + sum, x.of(0, 3), want);
    }

    private static void names() {
        DOC.says("NAMES of hold, far, found: weight, lies, beside (BONES in the four CELLS beside it), x, y, "
                + "hour (THE HOUR mod 24); of far besides: strength, spare; of found besides: many (FINES of the FARMER so "
                + "far); of crop: age (HOURS since it was sown), x, y, area (CELLS of its FIELD), water (WELLS in its FIELD).");
        for (String name : NAMES) {
            boolean bones = OF_BONES.contains(name);
            named("hold " + name + ";", bones, 5);
            named("far " + name + ";", bones || name.equals("strength") || name.equals("spare"), 4);
            named("found 1=" + name + ";", bones || name.equals("many"), 8);
            named("crop " + name + ";", OF_CROPS.contains(name), 5);
        }
        namesOfBones();
        namesOfCrops();
    }

    private static void named(String text, boolean can, int place) {
        read(text, can ? 0 : 5, can ? -1 : place);
    }

    private static void namesOfBones() {
        WalkingFences x = new WalkingFences(4, 3);
        x.bone(5, 42);
        x.wind(0, 0, 0, 1);
        int[] corners = {0, 2, 8, 10};
        for (int c : corners) {
            x.bone(c, 5);
        }
        Check.rule(x, "hold beside;found beside#many;");
        CHECK.due("none by corners", x.of(0, 3), 0);
        int[] sides = {1, 4, 6, 9};
        for (int i = 0; i < sides.length; i++) {
            x.bone(sides[i], 5);
            CHECK.due("by sides", x.of(0, 3), i + 1);
        }
        Check.rule(x, "hold hour;");
        x.hours(0, 23);
        CHECK.due("hour 23", x.of(0, 3), 23);
        x.hour(0);
        CHECK.due("hour 24 is 0", x.of(0, 3), 0);
        Check.toHour(x, 999);
        CHECK.due("hour 999 is 15", x.of(0, 3), 15);
        Check.rule(x, "hold weight*1000+lies*10+x*2+y;");
        CHECK.due("weight, lies, x, y", x.of(0, 3), 42000 + 990 + 2 + 1);
        WalkingFences many = new WalkingFences(3, 3);
        many.bone(4, 5);
        Check.rule(many, "found many<3;");
        for (int i = 0; i < 3; i++) {
            CHECK.due("many " + i, many.night(2, 0, 0), 2);
        }
        CHECK.due("many 3", many.night(2, 0, 0), 1);
        CHECK.due("many 0 of another", many.night(1, 0, 2), 2);
    }

    private static void namesOfCrops() {
        WalkingFences x = new WalkingFences(4, 3);
        for (int c = 0; c < 4; c++) {
            x.bone(8 + c, 5);
            x.well(c, true);
            x.well(8 + c, true);
        }
        x.wind(0, 0, 0, 1);
        x.stake(0, 0);
        Check.rule(x, "crop age*100+x*10+y;");
        x.hours(0, 2);
        x.sow(0, 7);
        CHECK.due("age 0", x.reap(0), 31);
        x.sow(0, 7);
        x.hours(0, 3);
        CHECK.due("age 3", x.reap(0), 331);
        Check.rule(x, "crop area*10+water;");
        x.sow(0, 7);
        CHECK.due("area 8, water 4 (not under bones)", x.reap(0), 84);
        for (int c = 0; c < 4; c++) {
            x.well(c, false);
        }
        x.sow(0, 0);
        CHECK.due("water 0", x.reap(0), 80);
        x.bone(1, 5);
        x.bone(4, 5);
        x.sow(0, 0);
        CHECK.due("area 1", x.reap(0), 10);
    }

    private static void steps() {
        DOC.says("From the left; / cuts towards 0, by 0 it is 0; what is above 1000000 (below the same less) is that, "
                + "at each step.");
        held("9-5-3", 1);
        held("9-5+3", 7);
        held("100/7*7", 98);
        held("7*100/7", 100);
        held("100/10/5", 2);
        held("7/2", 3);
        held("-7/2", -3);
        held("7/-2", -3);
        held("-7/-2", 3);
        held("1/2", 0);
        held("-1/2", 0);
        held("5/0", 0);
        held("-5/0", 0);
        held("0/0", 0);
        held("5/(3-3)", 0);
        held("5/0*9", 0);
        held("1000*1000", 1000000);
        held("1000*1000+1", 1000000);
        held("1000*1000+1-1", 999999);
        held("-1000*1000", -1000000);
        held("-1000*1000-1", -1000000);
        held("-1000*1000-1+1", -999999);
        held("9999*9999*9999*9999*9999", 1000000);
        held("-9999*9999*9999*9999*9999", -1000000);
        held("-9999*9999*-9999", 1000000);
        held("9999*101", 1000000);
        held("9999*100", 999900);
        held("1000*1000*(1000*1000)", 1000000);
        held("1000*1000*(1000*-1000)", -1000000);
        held("1000*1000/-1-1", -1000000);
        held("(1000*1000+5)/2", 500000);
    }

    private static void bothSides() {
        DOC.says("or and and look at both sides always.");
        found("1=1 or 1/0=5", true);
        found("1/0=5 or 1=1", true);
        found("1=2 and 1/0=0", false);
        found("1/0=0 and 1=1", true);
    }

    private static void faults() {
        DOC.says("FAULTS, the first as TOKENS are come to, at the TOKEN's first byte (of the end at the length), "
                + "of one the least:");
        read("hold spare 10000 !", 5, 5);
        read("hold 10000 spare !", 2, 5);
        read("hold ! 10000", 1, 5);
        read("hold 1; hold 2; !", 4, 8);
        read("  \n foo", 1, 4);
        read("hold 1;   elsewhere", 1, 10);
        read("hold", 1, 4);
        read("hold \n ", 1, 7);
        read("hold 1 \n\n", 1, 9);
        // One token with two faults.
        read("hold 1 10000;", 1, 7);
        read("bone 10000 10000", 2, 5);
        read("hold 1 spare;", 1, 7);
        read("bone spare at 1,1;", 1, 5);
        read("hold 1;" + "found 1=1;".repeat(19) + "hold 1;", 4, 197);
        read("found 1=1;".repeat(20) + "foo", 1, 200);
        read("hold " + "(".repeat(8) + "not", 1, 13);
    }

    private static void faultOne() {
        DOC.says("1 it can't stand there, or is none.");
        for (int b = 0; b < 256; b++) {
            boolean isToken = "<>=#+-*/(),; \n".indexOf(b) >= 0 || b >= '0' && b <= '9' || b >= 'a' && b <= 'z'
                    || b >= 'A' && b <= 'Z';
            if (!isToken) {
                read("" + (char) b, 1, 0);
                read("hold " + (char) b + ";", 1, 5);
                read("hold 1" + (char) b + ";", 1, 6);
                read("hold 1" + (char) b, 1, 6);
            }
        }
        for (String word : new String[] {"Hold", "HOLD", "hol", "holdhold", "Found", "s", "xx", "Weight", "mins", "nota"}) {
            read(word + " 1;", 1, 0);
            read("hold " + word + ";", 1, 5);
        }
        for (String word : new String[] {"hold", "far", "crop", "found", "bone", "stake", "at", "and", "or", "not"}) {
            read("hold " + word + ";", 1, 5);
        }
    }

    private static void faultTwo() {
        DOC.says("2 a NUMBER that isn't one of those told (above 9999; of bone a WEIGHT 1 .. 99, of stake 0 .. 5, "
                + "behind at x 0 .. 7, y 0 .. 5).");
        sound("found 9999=9999;");
        read("found 1=10000;", 2, 8);
        read("crop min(1,10000);", 2, 11);
        number("bone ", 1, 99, " at 0,0;");
        number("stake ", 0, 5, " at 0,0;");
        for (String begin : new String[] {"bone 1 at ", "stake 1 at "}) {
            number(begin, 0, 7, ",0;");
            number(begin + "0,", 0, 5, ";");
        }
    }

    /** Between this beginning and this end of a text just these numbers can be. */
    private static void number(String begin, int least, int most, String end) {
        sound(begin + least + end);
        sound(begin + most + end);
        sound(begin + "000" + most + end);
        read(begin + (most + 1) + end, 2, begin.length());
        read(begin + "10000" + end, 2, begin.length());
        read(begin + "4294967297" + end, 2, begin.length());
        if (least > 0) {
            read(begin + (least - 1) + end, 2, begin.length());
        }
        read(begin + "-" + least + end, 1, begin.length());
    }

    private static void faultThree() {
        DOC.says("3 the 9th of ( not and - (of one ONE) that are open around one another (at it; min and max are open "
                + "from their ( on).");
        String[] opens = {"(", "-", "min(", "max(", "max(1,"};
        String[] closes = {")", "", ",1)", ",1)", ")"};
        for (int a = 0; a < opens.length; a++) {
            for (int b = 0; b < opens.length; b++) {
                for (int n = 0; n <= 8; n++) {
                    String begin = "hold " + opens[a].repeat(n) + opens[b].repeat(8 - n);
                    sound(begin + "1" + closes[b].repeat(8 - n) + closes[a].repeat(n) + ";");
                }
                String deep = "hold " + opens[a].repeat(8);
                read(deep + opens[b] + "1", 3, deep.length() + (opens[b].startsWith("m") ? 3 : 0));
            }
        }
        for (int n = 0; n <= 8; n++) {
            String nots = "found " + "not ".repeat(n);
            sound(nots + "(".repeat(8 - n) + "1" + ")".repeat(8 - n) + "=" + "-".repeat(8 - n) + "1;");
            read(nots + "(".repeat(9 - n) + "1", 3, nots.length() + 8 - n);
            read(nots + "1=" + "-".repeat(9 - n) + "1", 3, nots.length() + 2 + 8 - n);
        }
        sound("found " + "not ".repeat(8) + "1=1;");
        read("found " + "not ".repeat(9) + "1=1;", 3, 38);
        // What stands beside one another isn't open around one another.
        sound("hold 1" + "+(1)".repeat(20) + "-1".repeat(20) + ";");
        sound("found " + "not 1=1 or ".repeat(12) + "1=1;");
        sound("hold " + "-".repeat(8) + "1*" + "-".repeat(8) + "1;");
        sound("hold 1-" + "-".repeat(8) + "1;");
        sound("hold min(" + "(".repeat(7) + "1" + ")".repeat(7) + "," + "(".repeat(7) + "1" + ")".repeat(7) + ");");
        read("hold " + "(".repeat(8) + "min 1", 1, 17);
        read("hold " + "(".repeat(8) + "min", 1, 16);
    }

    private static void faultFour() {
        DOC.says("4 hold, far, crop for the second time (at it).");
        for (String kind : new String[] {"hold", "far", "crop"}) {
            String once = kind + " 1;";
            read(once + once, 4, once.length());
            read(once + " " + kind, 4, once.length() + 1);
            read(once + "found 1=1;bone 1 at 1,1;" + kind + " !", 4, once.length() + 24);
        }
        sound("hold 1;far 1;crop 1;");
        read("hold 1;far 1;crop 1;far 1;hold 1;", 4, 20);
        // Each text has its own.
        WalkingFences x = new WalkingFences(3, 3);
        CHECK.due("the first text", Check.read(x, "hold 1;"), 0);
        CHECK.due("the second text", Check.read(x, "hold 1;"), 1);
    }

    private static void faultFive() {
        DOC.says("5 a NAME that isn't of that CLAUSE (at it).");
        read("hold (1+many)", 5, 8);
        read("far 1;hold -strength;", 5, 12);
        read("found not 1=1 or age=1;", 5, 17);
        read("crop min(age,weight);", 5, 13);
        read("crop hour;", 5, 5);
        read("found strength", 5, 6);
        read("far water", 5, 4);
    }

    private static void faultSix() {
        DOC.says("6 the 21st CLAUSE (at its first TOKEN).");
        String twenty = "found 1=1;".repeat(20);
        for (String kind : new String[] {"hold", "far", "crop", "found", "bone", "stake"}) {
            read(twenty + " " + kind + " !", 6, 201);
        }
        sound(twenty);
        sound(twenty + "\n ");
        read(twenty + ";", 1, 200);
        read(twenty + "7", 1, 200);
        read(twenty.substring(0, 199), 1, 199);
    }

    private static void theText() {
        DOC.says("THE TEXT (told; at first none) rules.");
        WalkingFences x = new WalkingFences(3, 3);
        x.bone(0, 5);
        CHECK.due("at first none", x.about(6), -1);
        CHECK.due("hold without", x.of(0, 3), 5);
        Check.read(x, "hold 77;");
        CHECK.due("one that is only read doesn't rule", x.of(0, 3), 5);
        x.by(0);
        CHECK.due("one that is told does", x.of(0, 3), 77);
        Check.read(x, "hold !");
        CHECK.due("a faulty one leaves it", x.of(0, 3), 77);
        Check.read(x, "");
        x.by(1);
        CHECK.due("by an empty one as without", x.of(0, 3), 5);
        x.by(-1);
        CHECK.due("none again", x.of(0, 3), 5);
    }

    private static void drawn() {
        DOC.says("DRAWN by a TEXT: BONES, STAKES and crops are gone, then its bone and stake clauses in their order; "
                + "one that can't be (as by hand) ends it: its number among all CLAUSES (from 0).");
        WalkingFences x = new WalkingFences(3, 3);
        x.bone(0, 5);
        x.stake(3, 8);
        x.sow(3, 7);
        Check.read(x, "");
        CHECK.due("by an empty text", x.draw(0), -1);
        CHECK.due("no bones", x.about(3), 0);
        CHECK.due("no stakes", x.farmer(3, 5), -1);
        CHECK.due("no crops", x.about(9), 0);
        CHECK.due("one field", x.cell(0, 1), 9);
        CHECK.due("the bone's cell is open", x.bone(0, 5), 0);
        CHECK.due("the stake's cell is open", x.bone(8, 5), 1);
        draw("bone 1 at 2,2;bone 99 at 0,0;", -1, 2, -1);
        draw("bone 1 at 3,0;", 0, 0, -1);
        draw("bone 1 at 0,3;", 0, 0, -1);
        draw("stake 1 at 3,0;", 0, 0, -1);
        draw("stake 1 at 0,3;", 0, 0, -1);
        draw("bone 1 at 0,0;bone 1 at 0,0;stake 1 at 1,1;", 1, 1, -1);
        draw("stake 1 at 1,1;bone 1 at 1,1;bone 1 at 0,0;", 1, 0, 4);
        draw("bone 1 at 1,1;stake 1 at 1,1;bone 1 at 0,0;", 1, 1, -1);
        draw("stake 1 at 1,1;stake 2 at 1,1;", -1, 0, 4);
        draw("stake 1 at 1,1;stake 1 at 2,2;bone 5 at 1,1;", -1, 1, 8);
        draw("hold 1;far 1;stake 1 at 0,0;found 1=1;crop 1;bone 1 at 7,5;bone 1 at 0,1;", 5, 0, 0);
        draw("bone 1 at 0,0;" + "found 1=1;".repeat(18) + "bone 1 at 0,0;", 19, 1, -1);
        twentyBones();
    }

    /** What drawing by this text answers on 3 by 3, how many bones lie then, and where farmer 1 has his stake. */
    private static void draw(String text, int clause, int bones, int stake) {
        WalkingFences x = new WalkingFences(3, 3);
        x.bone(4, 5);
        x.stake(1, 8);
        Check.read(x, text);
        CHECK.due("drawn by " + text, x.draw(0), clause);
        CHECK.due("bones by " + text, x.about(3), bones);
        CHECK.due("stake by " + text, x.farmer(1, 5), stake);
    }

    private static void twentyBones() {
        StringBuilder all = new StringBuilder();
        for (int i = 0; i < 20; i++) {
            all.append("bone 7 at ").append(i % 8).append(',').append(i / 8).append(';');
        }
        WalkingFences x = new WalkingFences(8, 6);
        for (int i = 0; i < 24; i++) {
            x.bone(47 - i, 5);
        }
        CHECK.due("twenty bones are read", Check.read(x, all.toString()), 0);
        CHECK.due("and drawn, though there were 24", x.draw(0), -1);
        CHECK.due("twenty are there", x.about(3), 20);
        CHECK.due("the last of them", x.of(19, 0), 19);
        CHECK.due("four more by hand", x.bone(47, 5) + x.bone(46, 5) + x.bone(45, 5) + x.bone(44, 5), 20 + 21 + 22 + 23);
        CHECK.due("not a fifth", x.bone(43, 5), -1);
    }
}
