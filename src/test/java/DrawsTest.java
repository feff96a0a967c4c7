/** Promises 42 to 44: the seed, images kept and gone back to. */
public final class DrawsTest {
    private static final String TEXT = "r200 1;p60;d5,3;";

    public static void main(String[] args) {
        seeding();
        keeping();
        imagesStayApart();
        imagesLeaveWhatIsSeen();
        imagesWithoutARealm();
        Due.end();
    }

    private static void seeding() {
        RulerFoot foot = new RulerFoot();
        Due.due("seed(5)", 0, foot.seed(5));
        Due.due("seed(-1)", Due.OUTSIDE, foot.seed(-1));
        Due.due("seed(least)", Due.OUTSIDE, foot.seed(Integer.MIN_VALUE));
        Due.due("seed(most)", 5, foot.seed(Integer.MAX_VALUE));
        Due.due("seed(0)", Integer.MAX_VALUE, foot.seed(0));
        // One draw of seed 2147483647, which has no second draw: it becomes 1043980748; of 8 it is 1.
        RulerFoot other = Due.realmOf(TEXT);
        other.seed(Integer.MAX_VALUE);
        other.drift(1);
        Due.due("seed(0) behind a draw", 1043980748, other.seed(0));
    }

    private static void keeping() {
        RulerFoot foot = Due.realmOf(TEXT);
        Due.due("goBack(0)", Due.NOT, foot.goBack(0));
        Due.due("goBack(1)", Due.NOT, foot.goBack(1));
        Due.due("goBack(2)", Due.UNKNOWN, foot.goBack(2));
        Due.due("goBack(-1)", Due.UNKNOWN, foot.goBack(-1));
        Due.due("keep(2)", Due.UNKNOWN, foot.keep(2));
        Due.due("keep(-1)", Due.UNKNOWN, foot.keep(-1));
        foot.seed(321);
        foot.year(3);
        foot.make(2, 3);
        foot.hold(4);
        foot.shorten(0, 7);
        foot.warp(-8);
        foot.lose(true);
        Due.due("keep(1)", 1, foot.keep(1));
        Due.due("undo() behind keep", Due.NOT, foot.undo());
        Due.due("told(7) behind keep", 1, foot.told(7));
        foot.lose(false);
        foot.year(5);
        foot.make(1, 0);
        foot.drop();
        foot.shorten(0, 7);
        foot.drift(9);
        Due.due("goBack(0)", Due.NOT, foot.goBack(0));
        Due.due("told(13)", 6, foot.told(13));
        Due.due("goBack(1)", 1, foot.goBack(1));
        Due.due("undo() behind goBack", Due.NOT, foot.undo());
        Due.due("told(5)", 3, foot.told(5));
        Due.due("told(6)", 197, foot.told(6));
        Due.due("told(7)", 1, foot.told(7));
        Due.due("told(8)", 1, foot.told(8));
        Due.due("told(9)", 1, foot.told(9));
        Due.due("warped()", 992, foot.warped());
        // 197 times 27 / 12 is 443, and the sways of three years are 1.
        Due.due("thing(0, 0)", 1444, foot.thing(0, 0));
        Due.due("thing(0, 1)", 2, foot.thing(0, 1));
        Due.due("thing(0, 2)", 3, foot.thing(0, 2));
        Due.due("thing(0, 3)", 3, foot.thing(0, 3));
        Due.due("hand(0)", 201, foot.hand(0));
        Due.due("person(0, 0)", 53, foot.person(0, 0));
        Due.due("seed(0)", 321, foot.seed(0));
        foot.year(1);
        Due.due("goBack(1) again", 1, foot.goBack(1));
        Due.due("told(5) again", 3, foot.told(5));
        Due.due("goBack of what is refused", Due.UNKNOWN, foot.goBack(5));
    }

    private static void imagesStayApart() {
        RulerFoot foot = Due.realmOf(TEXT);
        foot.warp(1);
        foot.seed(1);
        foot.keep(0);
        foot.warp(2);
        foot.seed(2);
        foot.keep(1);
        foot.warp(3);
        Due.due("goBack(0)", 1, foot.goBack(0));
        Due.due("warped() of 0", 1001, foot.warped());
        Due.due("seed of 0", 1, foot.seed(9));
        Due.due("goBack(1)", 1, foot.goBack(1));
        Due.due("warped() of 1", 1002, foot.warped());
        Due.due("seed of 1", 2, foot.seed(9));
        foot.warp(4);
        foot.keep(0);
        foot.goBack(1);
        foot.goBack(0);
        Due.due("warped() of 0 kept anew", 1004, foot.warped());
    }

    private static void imagesLeaveWhatIsSeen() {
        RulerFoot foot = Due.realmOf(TEXT);
        foot.write(0, 60);
        foot.keep(0);
        foot.see(1, 20);
        foot.write(0, 59);
        foot.shorten(0, 1);
        Due.due("judge()", 0, foot.judge());
        foot.goBack(0);
        Due.due("told(11)", 1, foot.told(11));
        Due.due("told(12)", 2, foot.told(12));
        Due.due("judge()", 1, foot.judge());
    }

    private static void imagesWithoutARealm() {
        RulerFoot foot = new RulerFoot();
        foot.drop();
        foot.seed(7);
        Due.due("keep(0) of no realm", 1, foot.keep(0));
        Due.due("told(13)", 0, foot.told(13));
        foot.seed(8);
        Due.due("goBack(0) of no realm", 1, foot.goBack(0));
        Due.due("seed(0)", 7, foot.seed(0));
        Due.due("realm() of nothing", 0, foot.realm());
        Due.due("goBack(0) behind realm()", Due.NOT, foot.goBack(0));
    }
}
