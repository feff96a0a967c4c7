/** Promises 1 to 4: a new object, the text, the realm that it tells, its first fault. */
public final class TextTest {
    public static void main(String[] args) {
        newObject();
        feeding();
        goodTexts();
        emptyTexts();
        faultsOfPlace();
        faultsOfNumbers();
        faultsOfRepeats();
        firstFaultIsTold();
        realmReplacesAll();
        faultLeavesAll();
        lettersOfAnEarlierText();
        Due.end();
    }

    private static void newObject() {
        RulerFoot foot = new RulerFoot();
        for (int what = 0; what <= 13; what++) {
            Due.due("told(" + what + ") of a new object", what == 10 ? Due.NONE : 0, foot.told(what));
        }
        Due.due("fault()", Due.NONE, foot.fault());
        Due.due("warped()", Due.NOT, foot.warped());
        Due.due("nick(0)", Due.NONE, foot.nick(0));
        Due.due("office(0, 0)", Due.UNKNOWN, foot.office(0, 0));
        Due.due("person(0, 0)", Due.UNKNOWN, foot.person(0, 0));
        Due.due("thing(0, 0)", Due.UNKNOWN, foot.thing(0, 0));
        Due.due("hand(0)", Due.UNKNOWN, foot.hand(0));
        Due.due("seed(0)", 0, foot.seed(0));
    }

    private static void feeding() {
        RulerFoot foot = new RulerFoot();
        Due.due("feed(-1)", Due.OUTSIDE, foot.feed(-1));
        Due.due("feed(256)", Due.OUTSIDE, foot.feed(256));
        Due.due("told(4)", 0, foot.told(4));
        Due.due("feed(0)", 1, foot.feed(0));
        Due.due("feed(255)", 2, foot.feed(255));
        for (int i = 3; i <= 240; i++) {
            Due.due("feed the " + i + "th", i, foot.feed(' '));
        }
        Due.due("feed(32) to 240", Due.FULL, foot.feed(' '));
        Due.due("feed(256) to 240", Due.OUTSIDE, foot.feed(256));
        Due.due("told(4)", 240, foot.told(4));
        Due.due("realm()", -11, foot.realm());
        Due.due("told(4)", 0, foot.told(4));
        Due.due("feed(32)", 1, foot.feed(' '));
    }

    private static void good(String text, int length) {
        RulerFoot foot = new RulerFoot();
        Due.due("realm() of " + text, length, Due.tell(foot, text));
        Due.due("fault() of " + text, Due.NONE, foot.fault());
        Due.due("told(0) of " + text, length, foot.told(0));
        Due.due("told(4) of " + text, 0, foot.told(4));
    }

    private static void bad(String text, int kind, int place) {
        RulerFoot foot = new RulerFoot();
        Due.due("realm() of " + text, -10 - kind, Due.tell(foot, text));
        Due.due("fault() of " + text, place, foot.fault());
        Due.due("told(0) of " + text, 0, foot.told(0));
        Due.due("told(4) of " + text, 0, foot.told(4));
    }

    private static void goodTexts() {
        good("r12 0;", 12);
        good("r240 9;", 240);
        good("  r  24   1 ;  ", 24);
        good("r024 001;", 24);
        good("r24 1;n1;n239;n2;n3;n004;", 24);
        good("r24 1;o1 1;o99 99;o1 99;o 5 6 ;o7 7;o8 9;", 24);
        good("r24 1;p1;p999;p1;p1;p2;p3;", 24);
        good("r24 1;d0;", 24);
        good("r24 1; d 9 , 0 , 1,2,3,4,5,6,7,8,9,0 ;", 24);
        good("r24 1;p1;d4;n1;o1 2;p2;n2;o2 2;", 24);
    }

    private static void emptyTexts() {
        RulerFoot foot = Due.realmOf("r24 1;n5;o1 2;p9;");
        Due.due("realm() of nothing", 0, foot.realm());
        Due.due("fault()", Due.NONE, foot.fault());
        Due.due("told(0)", 0, foot.told(0));
        Due.due("told(1)", 0, foot.told(1));
        Due.due("told(2)", 0, foot.told(2));
        Due.due("told(3)", 0, foot.told(3));
        Due.due("told(6)", 0, foot.told(6));
        Due.due("year(1)", Due.NOT, foot.year(1));
        Due.due("person(0, 0)", Due.UNKNOWN, foot.person(0, 0));
        good("     ", 0);
    }

    private static void faultsOfPlace() {
        bad("x", 1, 0);
        bad("n5;", 1, 0);
        bad("  d4;", 1, 2);
        bad("R24 1;", 1, 0);
        bad("5", 1, 0);
        bad(";", 1, 0);
        bad("r", 1, 1);
        bad("r ", 1, 2);
        bad("r;", 1, 1);
        bad("r-4 1;", 1, 1);
        bad("r24", 1, 3);
        bad("r24;", 1, 3);
        bad("r120;", 1, 4);
        bad("r24,1;", 1, 3);
        bad("r24 1", 1, 5);
        bad("r24 1   ", 1, 8);
        bad("r24 1 2;", 1, 6);
        bad("r24 1n5;", 1, 5);
        bad("r24 1;;", 1, 6);
        bad("r24 1;N5;", 1, 6);
        bad("r24 1;\t", 1, 6);
        bad("r24 1;" + (char) 255, 1, 6);
        bad("r24 1;" + (char) 0, 1, 6);
        bad("r24 1;n;", 1, 7);
        bad("r24 1;n5", 1, 8);
        bad("r24 1;n5 6;", 1, 9);
        bad("r24 1;o5;", 1, 8);
        bad("r24 1;o5 6 7;", 1, 11);
        bad("r24 1;p", 1, 7);
        bad("r24 1;d;", 1, 7);
        bad("r24 1;d,4;", 1, 7);
        bad("r24 1;d4,;", 1, 9);
        bad("r24 1;d4 5;", 1, 9);
        bad("r24 1;d4,,5;", 1, 9);
        bad("r24 1;d0,1,2,3,4,5,6,7,8,9,0,1,2;", 1, 30);
        bad("r24 1;d0,1,2,3,4,5,6,7,8,9,0,1 ,x", 1, 31);
        bad("r24 1;d0,1,2,3,4,5,6,7,8,9,0,1,10;", 1, 30);
        bad("r24 1;n 5 1234;", 1, 10);
    }

    private static void faultsOfNumbers() {
        bad("r11 0;", 2, 1);
        bad("r 241 0;", 2, 2);
        bad("r24 10;", 2, 4);
        bad("r1200 0;", 2, 1);
        bad("r0024 0;", 2, 1);
        bad("r24 0001;", 2, 4);
        bad("r2 4 1;", 2, 1);
        bad("r99999999999999999999 1;", 2, 1);
        bad("r4294967320 1;", 2, 1);
        bad("r24 1;n0;", 2, 7);
        bad("r24 1;n240;", 2, 7);
        bad("r24 1;o0 5;", 2, 7);
        bad("r24 1;o100 5;", 2, 7);
        bad("r24 1;o5 4;", 2, 9);
        bad("r24 1;o5  100;", 2, 10);
        bad("r24 1;o5 0;", 2, 9);
        bad("r24 1;p0;", 2, 7);
        bad("r24 1;p1000;", 2, 7);
        bad("r24 1;d10;", 2, 7);
        bad("r24 1;d4,10;", 2, 9);
        bad("r24 1;d0,1,2,3,4,5,6,7,8,9,0,12,2;", 2, 29);
        bad("r24 1;n0", 2, 7);
        bad("r11", 2, 1);
        bad("r24 1;n5;n0005;", 2, 10);
    }

    private static void faultsOfRepeats() {
        bad("r24 1;r24 1;", 3, 6);
        bad("r24 1; r", 3, 7);
        bad("r24 1;d4;d4;", 3, 9);
        bad("r24 1;n1;n2;n3;n4;n5;n6;", 3, 21);
        bad("r24 1;n1;n2;n3;n4;n5;n1;", 3, 21);
        bad("r24 1;o1 1;o1 1;o1 1;o1 1;o1 1;o1 1;o1 1;", 3, 36);
        bad("r24 1;p1;p1;p1;p1;p1;p1;px", 3, 24);
        bad("r24 1;n5;n5;", 4, 10);
        bad("r24 1;n5;n 005;", 4, 11);
        bad("r24 1;n5;n6;n7;n6;", 4, 16);
        bad("r24 1;n5;n5", 4, 10);
    }

    private static void firstFaultIsTold() {
        bad("r11 10;x", 2, 1);
        bad("r24 1;p0;r", 2, 7);
        bad("r24 1;n5;n5;n0;", 4, 10);
        bad("r24 1;x;n0;", 1, 6);
        bad("r24 1;r11 1;", 3, 6);
    }

    private static void realmReplacesAll() {
        RulerFoot foot = Due.realmOf("r24 1;n5;o1 2;p9;p8;");
        foot.seed(77);
        foot.year(3);
        foot.make(1, 0);
        foot.warp(5);
        foot.hold(1);
        foot.lose(true);
        foot.see(1, 24);
        foot.write(0, 9);
        foot.keep(0);
        foot.lose(true);
        Due.due("realm()", 30, Due.tell(foot, "r30 2;p50;"));
        int[] want = {30, 0, 0, 1, 0, 0, 30, 0, 0, 0, Due.NONE, 0, 0, 0};
        for (int what = 0; what < want.length; what++) {
            Due.due("told(" + what + ") behind realm()", want[what], foot.told(what));
        }
        Due.due("warped()", 1000, foot.warped());
        Due.due("person(0, 0)", 50, foot.person(0, 0));
        Due.due("undo()", Due.NOT, foot.undo());
        Due.due("goBack(0)", Due.NOT, foot.goBack(0));
        Due.due("seed(0)", 77, foot.seed(0));
        Due.due("realm()", 31, Due.tell(foot, "r31 1;"));
        for (int what = 1; what <= 3; what++) {
            Due.due("told(" + what + ") of a third realm", 0, foot.told(what));
        }
        Due.due("realm()", 32, Due.tell(foot, "r32 1;n1;n2;n3;n4;n5;o1 1;p1;d5;"));
        Due.due("realm()", 33, Due.tell(foot, "r33 1;"));
        Due.due("realm()", 34, Due.tell(foot, "r34 1;n1;"));
        Due.due("told(1) of a later realm", 1, foot.told(1));
        Due.due("told(2) of a later realm", 0, foot.told(2));
        Due.due("told(3) of a later realm", 0, foot.told(3));
        Due.due("longAt(1, 1) of a later realm", 1000, foot.longAt(1, 1));
        Due.due("realm() told by a fault", -13, Due.tell(foot, "r34 1;d5;d5;"));
        Due.due("realm()", 35, Due.tell(foot, "r35 1;d5;"));
    }

    private static void faultLeavesAll() {
        RulerFoot foot = Due.realmOf("r24 1;n5;o1 20;p9;d5;");
        foot.year(3);
        foot.keep(1);
        foot.make(1, 0);
        foot.hold(1);
        foot.see(1, 24);
        foot.write(0, 8);
        Due.due("realm()", -14, Due.tell(foot, "r30 2;n7;n7;"));
        Due.due("fault()", 10, foot.fault());
        int[] want = {24, 1, 1, 1, 0, 3, 21, 0, 1, 1, 0, 1, 1, 2};
        for (int what = 0; what < want.length; what++) {
            Due.due("told(" + what + ") behind a fault", want[what], foot.told(what));
        }
        Due.due("nick(0)", 5, foot.nick(0));
        Due.due("office(0, 1)", 20, foot.office(0, 1));
        Due.due("person(0, 0)", 9, foot.person(0, 0));
        Due.due("longAt(1, 0)", 20, foot.longAt(1, 0));
        Due.due("longAt(1, 1)", 1004, foot.longAt(1, 1));
        Due.due("goBack(1)", 1, foot.goBack(1));
        Due.due("realm() of nothing", 0, foot.realm());
        Due.due("fault()", Due.NONE, foot.fault());
    }

    /** What an earlier, longer text had behind the end of this one is no part of it. */
    private static void lettersOfAnEarlierText() {
        RulerFoot foot = new RulerFoot();
        Due.due("realm()", 24, Due.tell(foot, "r24 1;n5;"));
        Due.due("realm() without its ';'", -11, Due.tell(foot, "r24 1"));
        Due.due("fault()", 5, foot.fault());
        Due.due("realm()", -12, Due.tell(foot, "r24 12  ;n5;"));
        Due.due("realm() ended by its ';'", -11, Due.tell(foot, "r24 1"));
        Due.due("fault()", 5, foot.fault());
        Due.due("realm() of fewer blanks", -11, Due.tell(foot, "r24 1 "));
        Due.due("fault()", 6, foot.fault());
    }
}
