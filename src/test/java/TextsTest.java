/** Promises 7 to 12: the tape, texts and their faults, and what is drawn by them. */
public final class TextsTest {
    private static final Check CHECK = new Check("texts");

    public static void main(String[] args) {
        tape();
        texts();
        soundTexts();
        wrongTexts();
        depths();
        manyClauses();
        rules();
        drawing();
        CHECK.finish();
    }

    private static void tape() {
        WalkingFences x = new WalkingFences(4, 3);
        CHECK.due("end(0)", x.end(0), 0);
        CHECK.due("end(1)", x.end(1), -1);
        for (int i = 1; i <= 15; i++) {
            CHECK.due("feed " + i, x.feed(0, 0, 0, 0, 0), 20 * i);
        }
        CHECK.due("feed beyond 300", x.feed(0, 0, 0, 0, 0), -1);
        CHECK.due("about(8)", x.about(8), 300);
        CHECK.due("end(-1)", x.end(-1), -1);
        CHECK.due("end(301)", x.end(301), -1);
        CHECK.due("end(281)", x.end(281), 281);
        CHECK.due("feed to 301", x.feed(0, 0, 0, 0, 0), -1);
        CHECK.due("about(8) then", x.about(8), 281);
        CHECK.due("end(280)", x.end(280), 280);
        CHECK.due("feed to 300", x.feed(0, 0, 0, 0, 0), 300);
        CHECK.due("end(MIN)", x.end(Integer.MIN_VALUE), -1);
        x.end(0);
        // The bytes come the highest of a first: 'hold', ' 12;'.
        x.feed(0x686f6c64, 0x2031323b, 0x20202020, 0x0a0a0a0a, 0x20202020);
        CHECK.due("text()", x.text(), 0);
        x.bone(0, 5);
        x.by(0);
        CHECK.due("of(0, 3)", x.of(0, 3), 12);
        // Bytes above 127 are no tokens.
        x.feed(0x686f6c64, 0x2031323b, 0xff000000, 0, 0);
        CHECK.due("text() with 255", x.text(), -1);
        CHECK.due("fault(1)", x.fault(1), 8);
    }

    private static void texts() {
        WalkingFences x = new WalkingFences(4, 3);
        CHECK.due("fault(0) ahead of any", x.fault(0), -1);
        CHECK.due("fault(1) ahead of any", x.fault(1), -1);
        CHECK.due("an empty text", x.text(), 0);
        CHECK.due("fault(0)", x.fault(0), 0);
        CHECK.due("fault(1)", x.fault(1), -1);
        CHECK.due("fault(2)", x.fault(2), -1);
        CHECK.due("fault(-1)", x.fault(-1), -1);
        CHECK.due("a text with a fault", Check.read(x, "hold 1;;"), -1);
        CHECK.due("its tape is gone", x.about(8), 0);
        CHECK.due("fault(0)", x.fault(0), 1);
        CHECK.due("fault(1)", x.fault(1), 7);
        CHECK.due("fault(2)", x.fault(2), -1);
        CHECK.due("the next", Check.read(x, "hold 1;"), 1);
        CHECK.due("its tape is gone, too", x.about(8), 0);
        CHECK.due("third", Check.read(x, "far 1;"), 2);
        Check.read(x, "far");
        CHECK.due("fourth", Check.read(x, "crop 1;"), 3);
        CHECK.due("about(5)", x.about(5), 4);
        CHECK.due("fifth", Check.read(x, "hold!"), -1);
        CHECK.due("the tape stays", x.about(8), 5);
        CHECK.due("none was read: fault(0)", x.fault(0), 0);
        CHECK.due("about(5)", x.about(5), 4);
    }

    private static void sound(String text) {
        WalkingFences x = new WalkingFences(4, 3);
        CHECK.due(text, Check.read(x, text), 0);
        CHECK.due("fault(0) of " + text, x.fault(0), 0);
        CHECK.due("fault(1) of " + text, x.fault(1), -1);
    }

    private static void wrong(String text, int fault, int place) {
        WalkingFences x = new WalkingFences(4, 3);
        CHECK.due(text, Check.read(x, text), -1);
        CHECK.due("fault(0) of " + text, x.fault(0), fault);
        CHECK.due("fault(1) of " + text, x.fault(1), place);
        CHECK.due("no text of " + text, x.about(5), 0);
    }

    private static void soundTexts() {
        sound("");
        sound(" \n ");
        sound("hold 9999;");
        sound("hold 0000001;");
        sound("\nhold\n1\n;\n");
        sound("hold weight+lies+beside+x+y+hour;");
        sound("far weight+lies+beside+x+y+hour+strength+spare;");
        sound("found weight+lies+beside+x+y+hour+many=0;");
        sound("crop age+x+y+area+water;");
        sound("found 1=1;found 1=1;");
        sound("found 1<1 or 1<=1 and 1>1 or 1>=1 and not 1=1 or 1#1;");
        sound("found not not 1<=1and 2=2or 3=3;");
        sound("far min(1,2)*max(1,-2)/-3--4;");
        sound("bone 1 at 0,0;bone 99 at 7,5;");
        sound("stake 0 at 0,0;stake 5 at 7,5;");
        sound("bone 007 at 01,02;");
    }

    private static void wrongTexts() {
        wrong("hold 1", 1, 6);
        wrong("hold 1 \n", 1, 8);
        wrong("hold;", 1, 4);
        wrong("hold 1 2;", 1, 7);
        wrong("hold 1;;", 1, 7);
        wrong("Hold 1;", 1, 0);
        wrong("  holds 1;", 1, 2);
        wrong("1;", 1, 0);
        for (String letter : new String[] {"a", "z", "A", "Z"}) {
            wrong("hold" + letter + " 1;", 1, 0);
        }
        for (String sign : new String[] {"@", "[", "`", "{", ":", ".", "_", "&", "\r", "\0"}) {
            wrong("hold" + sign + " 1;", 1, 4);
            wrong("hold 1" + sign + ";", 1, 6);
        }
        wrong("hold !;", 1, 5);
        wrong("hold 1\t;", 1, 6);
        wrong("hold at;", 1, 5);
        wrong("hold foo;", 1, 5);
        wrong("hold not 1;", 1, 5);
        wrong("hold 1=1;", 1, 6);
        wrong("hold (1;", 1, 7);
        wrong("hold 1);", 1, 6);
        wrong("hold ();", 1, 6);
        wrong("hold +1;", 1, 5);
        wrong("hold 1 age;", 1, 7);
        wrong("hold 1 10000;", 1, 7);
        wrong("far min 2;", 1, 8);
        wrong("far min(1);", 1, 9);
        wrong("far max(1,2,3);", 1, 11);
        wrong("found 1;", 1, 7);
        wrong("found 1=1=1;", 1, 9);
        wrong("found (1=1);", 1, 8);
        wrong("found 1=1 or;", 1, 12);
        wrong("found 1=1 and or 1=1;", 1, 14);
        wrong("found not;", 1, 9);
        wrong("found 1=<1;", 1, 8);
        wrong("found 1< =1;", 1, 9);
        wrong("found 1<>1;", 1, 8);
        wrong("bone x at 1,1;", 1, 5);
        wrong("bone -1 at 1,1;", 1, 5);
        wrong("bone (1) at 1,1;", 1, 5);
        wrong("bone 1 at 1 1;", 1, 12);
        wrong("bone 1 at 1,1", 1, 13);
        wrong("bone 1,1,1;", 1, 6);
        wrong("hold 10000;", 2, 5);
        wrong("hold 99999999999999999999;", 2, 5);
        wrong("hold 4294967297;", 2, 5);
        wrong("bone 0 at 1,1;", 2, 5);
        wrong("bone 100 at 1,1;", 2, 5);
        wrong("bone 1 at 8,1;", 2, 10);
        wrong("bone 1 at 1,6;", 2, 12);
        wrong("stake 6 at 1,1;", 2, 6);
        wrong("stake 5 at 8,1;", 2, 11);
        wrong("stake 5 at 7,6;", 2, 13);
        wrong("hold 1;hold 2;", 4, 7);
        wrong("far 1;far 2;", 4, 6);
        wrong("crop 1;hold 1;crop 2;", 4, 14);
        wrong("hold strength;", 5, 5);
        wrong("hold spare;", 5, 5);
        wrong("hold many;", 5, 5);
        wrong("far many;", 5, 4);
        wrong("far age;", 5, 4);
        wrong("found 1=spare;", 5, 8);
        wrong("found water=1;", 5, 6);
        wrong("crop hour;", 5, 5);
        wrong("crop 1+weight;", 5, 7);
        // The first as tokens are come to.
        wrong("hold spare !", 5, 5);
        wrong("hold 10000 spare", 2, 5);
    }

    private static void depths() {
        sound("hold " + "(".repeat(8) + "1" + ")".repeat(8) + ";");
        wrong("hold " + "(".repeat(9) + "1" + ")".repeat(9) + ";", 3, 13);
        sound("hold " + "-".repeat(8) + "1;");
        wrong("hold " + "-".repeat(9) + "1;", 3, 13);
        sound("hold 1" + "-1".repeat(12) + ";");
        sound("hold 1" + "-".repeat(9) + "1;");
        wrong("hold 1" + "-".repeat(10) + "1;", 3, 15);
        sound("found " + "not ".repeat(8) + "1=1;");
        wrong("found " + "not ".repeat(9) + "1=1;", 3, 38);
        sound("found not not not not ((((1))))=((((1))));");
        wrong("found not not not not (((((1)))))=1;", 3, 26);
        wrong("found not not not not 1=(((((1)))));", 3, 28);
        sound("found " + "not ".repeat(8) + "1=1 or " + "(".repeat(8) + "1" + ")".repeat(8) + "=1;");
        sound("hold " + "min(".repeat(8) + "1" + ",2)".repeat(8) + ";");
        wrong("hold " + "min(".repeat(9) + "1" + ",2)".repeat(9) + ";", 3, 40);
        wrong("hold " + "max(1,".repeat(9) + "1" + ")".repeat(9) + ";", 3, 56);
        wrong("hold " + "(".repeat(8) + "min 1", 1, 17);
        wrong("hold " + "(".repeat(8) + "min(1", 3, 16);
        wrong("hold " + "(".repeat(8) + "-1", 3, 13);
        sound("hold " + "-(".repeat(4) + "1" + ")".repeat(4) + "*" + "-(".repeat(4) + "1" + ")".repeat(4) + ";");
        wrong("hold " + "-(".repeat(5) + "1", 3, 13);
        // What is closed counts no more.
        sound("hold -1+" + "-".repeat(8) + "1;");
        sound("hold (1)+" + "(".repeat(8) + "1" + ")".repeat(8) + ";");
    }

    private static void manyClauses() {
        String found = "found 0=0;";
        sound(found.repeat(20));
        sound(found.repeat(20) + " \n");
        sound("stake 0 at 0,0;".repeat(20));
        wrong(found.repeat(21), 6, 200);
        wrong(found.repeat(20) + "hold 1;", 6, 200);
        wrong(found.repeat(20) + " bone", 6, 201);
        wrong(found.repeat(20) + "foo", 1, 200);
        wrong(found.repeat(20) + ";", 1, 200);
        wrong("hold 1;" + found.repeat(19) + "hold 1;", 4, 197);
    }

    private static void rules() {
        WalkingFences x = new WalkingFences(4, 3);
        x.bone(0, 7);
        CHECK.due("by(0) without texts", x.by(0), false);
        CHECK.due("by(-1)", x.by(-1), true);
        CHECK.due("by(-2)", x.by(-2), false);
        Check.read(x, "hold 20;");
        Check.read(x, "far 2;");
        CHECK.due("none rules at first", x.about(6), -1);
        CHECK.due("hold without a text", x.of(0, 3), 7);
        CHECK.due("by(0)", x.by(0), true);
        CHECK.due("about(6)", x.about(6), 0);
        CHECK.due("hold by it", x.of(0, 3), 20);
        CHECK.due("by(1)", x.by(1), true);
        CHECK.due("hold by a text without", x.of(0, 3), 7);
        CHECK.due("by(2)", x.by(2), false);
        CHECK.due("about(6) still", x.about(6), 1);
        CHECK.due("by(-1)", x.by(-1), true);
        CHECK.due("about(6) none", x.about(6), -1);
    }

    private static void drawing() {
        WalkingFences x = new WalkingFences(4, 3);
        CHECK.due("draw(0) without texts", x.draw(0), -2);
        CHECK.due("draw(-1)", x.draw(-1), -2);
        x.bone(0, 7);
        x.stake(0, 5);
        x.stake(4, 6);
        x.well(6, true);
        x.sow(0, 6);
        x.wind(0, 0, 0, 1);
        x.hour(0);
        x.map(0, 3);
        Check.read(x, "hold 3;bone 9 at 3,2;stake 1 at 0,1;far 2;bone 8 at 0,0;stake 2 at 0,1;");
        CHECK.due("draw(1)", x.draw(1), -2);
        CHECK.due("about(3) still", x.about(3), 1);
        CHECK.due("draw(0)", x.draw(0), -1);
        CHECK.due("about(3)", x.about(3), 2);
        CHECK.due("of(0, 0)", x.of(0, 0), 11);
        CHECK.due("of(0, 1)", x.of(0, 1), 9);
        CHECK.due("of(0, 2)", x.of(0, 2), 0);
        CHECK.due("of(1, 0)", x.of(1, 0), 0);
        CHECK.due("farmer(0, 5)", x.farmer(0, 5), -1);
        CHECK.due("farmer(4, 5)", x.farmer(4, 5), -1);
        CHECK.due("farmer(1, 5)", x.farmer(1, 5), 4);
        CHECK.due("farmer(2, 5)", x.farmer(2, 5), 4);
        CHECK.due("crops are gone", x.about(9), 0);
        CHECK.due("wells stay", x.cell(6, 4), 1);
        CHECK.due("the hour stays", x.about(2), 1);
        CHECK.due("no text rules by it", x.about(6), -1);
        CHECK.due("the map stays", x.about(60), 3);
        CHECK.due("the old stake's cell is open", x.bone(5, 1), 2);
        refusal("bone 1 at 4,0;", 0, 0);
        refusal("bone 1 at 0,3;", 0, 0);
        refusal("stake 1 at 4,0;", 0, 0);
        refusal("bone 1 at 1,1;bone 2 at 1,1;bone 3 at 2,2;", 1, 1);
        refusal("far 1;bone 1 at 1,1;crop 1;stake 2 at 1,1;", 3, 1);
        refusal("stake 2 at 1,1;hold 1;bone 1 at 1,1;", 2, 0);
    }

    /** Drawn by this text, this clause can't be; so many bones lie then. */
    private static void refusal(String text, int clause, int bones) {
        WalkingFences x = new WalkingFences(4, 3);
        x.bone(6, 3);
        Check.read(x, text);
        CHECK.due("draw by " + text, x.draw(0), clause);
        CHECK.due("bones by " + text, x.about(3), bones);
    }
}
