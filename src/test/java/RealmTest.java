/** Promises 5 to 11: what is told of the realm, the rod, the nicks, offices, persons, things and hands. */
public final class RealmTest {
    private static final String TEXT = "r24 1;n14;n9;n200;o10 20;o20 30;o70 80;p60;p41;p120;p48;d4,6,0;";

    public static void main(String[] args) {
        told();
        warped();
        nicks();
        offices();
        persons();
        things();
        longest();
        hands();
        Due.end();
    }

    private static void told() {
        RulerFoot foot = Due.realmOf(TEXT);
        foot.feed('r');
        foot.year(2);
        foot.make(1, 0);
        foot.make(2, 0);
        foot.make(1, 6);
        foot.hold(0);
        foot.hold(1);
        foot.see(1, 5);
        foot.write(0, 60);
        foot.write(0, 60);
        foot.lose(true);
        int[] want = {24, 3, 3, 4, 1, 2, 22, 1, 3, 2, 1, 1, 2, 7};
        for (int what = 0; what < want.length; what++) {
            Due.due("told(" + what + ")", want[what], foot.told(what));
        }
        Due.due("told(-1)", Due.OUTSIDE, foot.told(-1));
        Due.due("told(14)", Due.OUTSIDE, foot.told(14));
        Due.due("told(least)", Due.OUTSIDE, foot.told(Integer.MIN_VALUE));
    }

    private static void warped() {
        RulerFoot foot = Due.realmOf(TEXT);
        Due.due("warped()", 1000, foot.warped());
        foot.warp(-99);
        Due.due("warped()", 901, foot.warped());
        foot.lose(true);
        Due.due("warped() of a lost rod", 901, foot.warped());
    }

    private static void nicks() {
        RulerFoot foot = Due.realmOf(TEXT);
        Due.due("nick(0)", 14, foot.nick(0));
        Due.due("nick(1)", 9, foot.nick(1));
        Due.due("nick(2)", 200, foot.nick(2));
        Due.due("nick(3)", Due.NONE, foot.nick(3));
        Due.due("nick(-1)", Due.NONE, foot.nick(-1));
        Due.due("nick(most)", Due.NONE, foot.nick(Integer.MAX_VALUE));
    }

    private static void offices() {
        RulerFoot foot = Due.realmOf(TEXT);
        Due.due("office(0, 0)", 10, foot.office(0, 0));
        Due.due("office(0, 1)", 20, foot.office(0, 1));
        Due.due("office(2, 0)", 70, foot.office(2, 0));
        // Measured are 25, 17, 50 and 20.
        Due.due("office(0, 2)", 2 + 8, foot.office(0, 2));
        Due.due("office(1, 2)", 1 + 8, foot.office(1, 2));
        Due.due("office(2, 2)", 0, foot.office(2, 2));
        Due.due("office(3, 0)", Due.UNKNOWN, foot.office(3, 0));
        Due.due("office(-1, 0)", Due.UNKNOWN, foot.office(-1, 0));
        Due.due("office(0, 3)", Due.OUTSIDE, foot.office(0, 3));
        Due.due("office(0, -1)", Due.OUTSIDE, foot.office(0, -1));
        Due.due("office(3, 3)", Due.UNKNOWN, foot.office(3, 3));
        foot.year(8);
        // By 16 hairs: 37, 25, 75 and 30.
        Due.due("office(1, 2) by a worn rod", 2 + 8, foot.office(1, 2));
        Due.due("office(2, 2) by a worn rod", 4, foot.office(2, 2));
    }

    private static void persons() {
        RulerFoot foot = Due.realmOf(TEXT);
        Due.due("person(1, 0)", 41, foot.person(1, 0));
        Due.due("person(1, 1)", 17, foot.person(1, 1));
        Due.due("person(3, 1)", 20, foot.person(3, 1));
        Due.due("person(4, 0)", Due.UNKNOWN, foot.person(4, 0));
        Due.due("person(-1, 0)", Due.UNKNOWN, foot.person(-1, 0));
        Due.due("person(0, 2)", Due.OUTSIDE, foot.person(0, 2));
        Due.due("person(0, -1)", Due.OUTSIDE, foot.person(0, -1));
        Due.due("person(4, 2)", Due.UNKNOWN, foot.person(4, 2));
        foot.lose(true);
        Due.due("person(1, 1) by a lost rod", 17, foot.person(1, 1));
    }

    private static void things() {
        RulerFoot foot = Due.realmOf(TEXT);
        foot.year(1);
        foot.warp(-30);
        foot.make(1, 5);
        foot.year(1);
        foot.make(0, 7);
        // 23 times 17 / 12 is 32; 22 times 7 / 12 is 12, and -28.
        int[][] want = {{1002, 1, 5, 1}, {984, 0, 7, 2}};
        for (int i = 0; i < want.length; i++) {
            for (int what = 0; what < 4; what++) {
                Due.due("thing(" + i + ", " + what + ")", want[i][what], foot.thing(i, what));
            }
        }
        Due.due("thing(2, 0)", Due.UNKNOWN, foot.thing(2, 0));
        Due.due("thing(-1, 0)", Due.UNKNOWN, foot.thing(-1, 0));
        Due.due("thing(0, 4)", Due.OUTSIDE, foot.thing(0, 4));
        Due.due("thing(0, -1)", Due.OUTSIDE, foot.thing(0, -1));
        Due.due("thing(2, 4)", Due.UNKNOWN, foot.thing(2, 4));
    }

    private static void longest() {
        RulerFoot foot = Due.realmOf(TEXT);
        foot.warp(-50);
        foot.make(0, 0);
        foot.make(1, 0);
        foot.make(1, 0);
        Due.due("told(10) of lengths below 0", 1, foot.told(10));
        foot.make(2, 0);
        Due.due("told(10)", 3, foot.told(10));
    }

    private static void hands() {
        RulerFoot foot = Due.realmOf(TEXT);
        foot.hold(-20);
        foot.hold(20);
        Due.due("hand(0)", 4, foot.hand(0));
        Due.due("hand(1)", 44, foot.hand(1));
        Due.due("hand(2)", Due.UNKNOWN, foot.hand(2));
        Due.due("hand(-1)", Due.UNKNOWN, foot.hand(-1));
    }
}
