/** Promises 36 to 41: doors that are seen, the rods that they fit, the next door, the book and its judge. */
public final class SeenTest {
    public static void main(String[] args) {
        seeing();
        rods();
        door();
        writing();
        tearing();
        judging();
        Due.end();
    }

    private static void seeing() {
        RulerFoot foot = new RulerFoot();
        Due.due("see(0, 1)", Due.OUTSIDE, foot.see(0, 1));
        Due.due("see(10, 1)", Due.OUTSIDE, foot.see(10, 1));
        Due.due("see(1, -1)", Due.OUTSIDE, foot.see(1, -1));
        Due.due("see(1, 10000)", Due.OUTSIDE, foot.see(1, 10000));
        Due.due("told(11)", 0, foot.told(11));
        Due.due("see(1, 0)", 1, foot.see(1, 0));
        Due.due("see(9, 9999)", 2, foot.see(9, 9999));
        for (int i = 3; i <= 6; i++) {
            Due.due("see(1, 0)", i, foot.see(1, 0));
        }
        Due.due("see(1, 0) of six", Due.FULL, foot.see(1, 0));
        Due.due("see(0, 0) of six", Due.OUTSIDE, foot.see(0, 0));
        Due.due("told(11)", 6, foot.told(11));
    }

    private static void rodsAre(RulerFoot foot, int count, int length, int warp) {
        Due.due("rods(0)", count, foot.rods(0));
        Due.due("rods(1)", length, foot.rods(1));
        Due.due("rods(2)", warp, foot.rods(2));
    }

    private static void rods() {
        RulerFoot foot = new RulerFoot();
        rodsAre(foot, 240 * 19, 1, 991);
        foot.see(1, 24);
        rodsAre(foot, 19, 15, 1009);
        foot.see(2, 48);
        rodsAre(foot, 1, 24, 1000);
        foot.see(2, 48);
        rodsAre(foot, 1, 24, 1000);
        foot.see(2, 49);
        rodsAre(foot, 0, Due.NONE, Due.NONE);
        foot.tear();
        foot.see(9, 2169);
        rodsAre(foot, 1, 240, 1009);
        foot.tear();
        foot.see(9, 2170);
        rodsAre(foot, 0, Due.NONE, Due.NONE);
        foot.tear();
        foot.see(4, 100);
        // 23 with 8, 24 with 4, 25, 26 with -4, 27 with -8.
        rodsAre(foot, 5, 23, 1008);
        foot.tear();
        foot.see(1, 0);
        rodsAre(foot, 9, 1, 999);
        Due.due("rods(3)", Due.OUTSIDE, foot.rods(3));
        Due.due("rods(-1)", Due.OUTSIDE, foot.rods(-1));
    }

    private static void door() {
        RulerFoot foot = new RulerFoot();
        Due.due("door() of all", 7, foot.door());
        foot.see(1, 24);
        Due.due("door() of one seen", 2, foot.door());
        foot.see(2, 48);
        Due.due("door() of one rod", Due.NONE, foot.door());
        foot.see(2, 49);
        Due.due("door() of no rod", Due.NONE, foot.door());
        foot.tear();
        foot.see(2, 48);
        Due.due("door() where 1 parts them all", 1, foot.door());
        foot.see(1, 26);
        Due.due("rods(0)", 1, foot.rods(0));
        foot.tear();
        foot.see(9, 2160);
        // 239 with 9 and 240 with 0.
        Due.due("rods(0)", 2, foot.rods(0));
        Due.due("door() of two", 1, foot.door());
    }

    private static void writing() {
        RulerFoot foot = Due.realmOf("r24 0;p60;p41;");
        Due.due("write(0, 1)", 1, foot.write(0, 1));
        Due.due("write(1, 999)", 2, foot.write(1, 999));
        Due.due("write(2, 1)", Due.UNKNOWN, foot.write(2, 1));
        Due.due("write(-1, 1)", Due.UNKNOWN, foot.write(-1, 1));
        Due.due("write(2, 0)", Due.UNKNOWN, foot.write(2, 0));
        Due.due("write(0, 0)", Due.OUTSIDE, foot.write(0, 0));
        Due.due("write(0, 1000)", Due.OUTSIDE, foot.write(0, 1000));
        for (int i = 3; i <= 15; i++) {
            Due.due("write(0, 60)", i, foot.write(0, 60));
        }
        Due.due("write(0, 60) of fifteen", Due.FULL, foot.write(0, 60));
        Due.due("write(0, 0) of fifteen", Due.OUTSIDE, foot.write(0, 0));
        Due.due("write(2, 60) of fifteen", Due.UNKNOWN, foot.write(2, 60));
        Due.due("told(12)", 15, foot.told(12));
        Due.due("write(0, 60) of no realm", Due.UNKNOWN, new RulerFoot().write(0, 60));
    }

    private static void tearing() {
        RulerFoot foot = Due.realmOf("r24 0;p60;");
        Due.due("tear() of nothing", 0, foot.tear());
        foot.see(1, 24);
        foot.see(1, 25);
        foot.write(0, 60);
        Due.due("tear()", 3, foot.tear());
        Due.due("told(11)", 0, foot.told(11));
        Due.due("told(12)", 0, foot.told(12));
        Due.due("rods(0)", 4560, foot.rods(0));
        Due.due("see(1, 24)", 1, foot.see(1, 24));
        Due.due("write(0, 59)", 1, foot.write(0, 59));
        Due.due("judge()", 0, foot.judge());
    }

    private static void judging() {
        RulerFoot foot = Due.realmOf("r24 0;p60;p41;");
        Due.due("judge() of nothing", Due.NONE, foot.judge());
        foot.write(0, 60);
        foot.write(1, 41);
        foot.write(1, 40);
        foot.write(0, 59);
        Due.due("judge()", 2, foot.judge());
        foot.shorten(1, 1);
        Due.due("judge() shortened", 1, foot.judge());
        foot.undo();
        Due.due("judge() undone", 2, foot.judge());
        foot.shorten(0, 1);
        Due.due("judge()", 0, foot.judge());
        foot.tear();
        Due.due("judge() of a torn book", Due.NONE, foot.judge());
        Due.due("judge() of no realm", Due.NONE, new RulerFoot().judge());
    }
}
