/** Promises 12 to 21: years, making, warps, planings, losses, hands, shortening, drifting, undoing. */
public final class DoneTest {
    public static void main(String[] args) {
        years();
        yearsAreFull();
        swaysAreHeld();
        making();
        thingsAreLost();
        warping();
        planing();
        losing();
        holding();
        dropping();
        shortening();
        drifting();
        driftingKeepsTwenty();
        undoing();
        undoneAreLost();
        refusalsAreNotUndone();
        Due.end();
    }

    private static void years() {
        RulerFoot foot = Due.realmOf("r24 3;d5,9,0;");
        Due.due("year(0)", Due.OUTSIDE, foot.year(0));
        Due.due("year(61)", Due.OUTSIDE, foot.year(61));
        Due.due("year(least)", Due.OUTSIDE, foot.year(Integer.MIN_VALUE));
        Due.due("year(1)", 1, foot.year(1));
        Due.due("told(6)", 21, foot.told(6));
        Due.due("warped()", 1001, foot.warped());
        Due.due("year(2)", 3, foot.year(2));
        Due.due("told(6)", 15, foot.told(6));
        Due.due("warped()", 1002, foot.warped());
        foot.lose(true);
        Due.due("year(1) of a lost rod", 4, foot.year(1));
        Due.due("told(6) of a lost rod", 15, foot.told(6));
        Due.due("warped() of a lost rod", 1002, foot.warped());
        foot.lose(false);
        // Year 4 has the sway of 4 left over by 3.
        Due.due("year(1)", 5, foot.year(1));
        Due.due("warped()", 1007, foot.warped());
        Due.due("year(60)", 65, foot.year(60));
        Due.due("told(6)", 1, foot.told(6));
        RulerFoot straight = Due.realmOf("r24 0;");
        straight.year(60);
        Due.due("told(6) without wear", 24, straight.told(6));
        Due.due("warped() without sways", 1000, straight.warped());
        Due.due("year(0) of no realm", Due.OUTSIDE, new RulerFoot().year(0));
        Due.due("year(1) of no realm", Due.NOT, new RulerFoot().year(1));
    }

    private static void yearsAreFull() {
        RulerFoot foot = Due.realmOf("r24 0;");
        for (int i = 1; i <= 150; i++) {
            Due.due("year(60)", 60 * i, foot.year(60));
        }
        Due.due("year(1) of 9000", 9001, foot.year(1));
        Due.due("year(1) of 9001", Due.FULL, foot.year(1));
        Due.due("year(61) of 9001", Due.OUTSIDE, foot.year(61));
        Due.due("drift(1) of 9001", Due.FULL, foot.drift(1));
        Due.due("drift(0) of 9001", Due.OUTSIDE, foot.drift(0));
        Due.due("make(1, 0)", 1024, foot.make(1, 0));
        Due.due("thing(0, 3)", 9001, foot.thing(0, 3));
        foot.undo();
        Due.due("undo()", 14, foot.undo());
        Due.due("year(60) of 9000", 9060, foot.year(60));
    }

    private static void swaysAreHeld() {
        RulerFoot foot = Due.realmOf("r24 0;d9;");
        foot.year(20);
        Due.due("warped()", 1099, foot.warped());
        RulerFoot other = Due.realmOf("r24 0;d0,9;");
        other.warp(-98);
        other.year(1);
        Due.due("warped()", 901, other.warped());
        other.year(1);
        Due.due("warped()", 906, other.warped());
    }

    private static void making() {
        RulerFoot foot = Due.realmOf("r25 1;");
        Due.due("make(1, 0)", 1025, foot.make(1, 0));
        Due.due("make(0, 1)", 1002, foot.make(0, 1));
        Due.due("make(20, 11)", 1522, foot.make(20, 11));
        Due.due("make(0, 0)", 1000, foot.make(0, 0));
        Due.due("make(-1, 0)", Due.OUTSIDE, foot.make(-1, 0));
        Due.due("make(21, 0)", Due.OUTSIDE, foot.make(21, 0));
        Due.due("make(0, -1)", Due.OUTSIDE, foot.make(0, -1));
        Due.due("make(0, 12)", Due.OUTSIDE, foot.make(0, 12));
        foot.warp(-7);
        // The cut is ahead of the warp: 25 / 12 is 2, and -7.
        Due.due("make(0, 1)", 995, foot.make(0, 1));
        foot.lose(true);
        Due.due("make(1, 0) of a lost rod", Due.NOT, foot.make(1, 0));
        Due.due("make(21, 0) of a lost rod", Due.OUTSIDE, foot.make(21, 0));
        Due.due("told(8)", 5, foot.told(8));
        Due.due("make(1, 0) of no realm", Due.NOT, new RulerFoot().make(1, 0));
        Due.due("make(1, 12) of no realm", Due.OUTSIDE, new RulerFoot().make(1, 12));
    }

    private static void thingsAreLost() {
        RulerFoot foot = Due.realmOf("r24 0;");
        for (int i = 0; i < 20; i++) {
            foot.make(i, 1);
            foot.year(1);
        }
        Due.due("told(8)", 20, foot.told(8));
        Due.due("thing(0, 1)", 0, foot.thing(0, 1));
        foot.make(20, 2);
        foot.make(19, 3);
        Due.due("told(8)", 20, foot.told(8));
        Due.due("thing(0, 0)", 1050, foot.thing(0, 0));
        Due.due("thing(0, 1)", 2, foot.thing(0, 1));
        Due.due("thing(0, 3)", 2, foot.thing(0, 3));
        Due.due("thing(18, 0)", 1484, foot.thing(18, 0));
        Due.due("thing(18, 1)", 20, foot.thing(18, 1));
        Due.due("thing(18, 2)", 2, foot.thing(18, 2));
        Due.due("thing(18, 3)", 20, foot.thing(18, 3));
        Due.due("thing(19, 0)", 1462, foot.thing(19, 0));
        Due.due("thing(19, 1)", 19, foot.thing(19, 1));
        Due.due("thing(19, 2)", 3, foot.thing(19, 2));
        Due.due("thing(19, 3)", 20, foot.thing(19, 3));
        Due.due("undo()", 15, foot.undo());
        Due.due("undo()", 14, foot.undo());
        for (int i = 0; i < 20; i++) {
            Due.due("thing(" + i + ", 0) undone", 1000 + 24 * i + 2, foot.thing(i, 0));
            Due.due("thing(" + i + ", 1) undone", i, foot.thing(i, 1));
            Due.due("thing(" + i + ", 2) undone", 1, foot.thing(i, 2));
            Due.due("thing(" + i + ", 3) undone", i, foot.thing(i, 3));
        }
    }

    private static void warping() {
        RulerFoot foot = Due.realmOf("r24 0;");
        Due.due("warp(99)", 1000, foot.warp(99));
        Due.due("warp(-99)", 1099, foot.warp(-99));
        Due.due("warp(100)", Due.OUTSIDE, foot.warp(100));
        Due.due("warp(-100)", Due.OUTSIDE, foot.warp(-100));
        Due.due("warped()", 901, foot.warped());
        foot.lose(true);
        Due.due("warp(1) of a lost rod", Due.NOT, foot.warp(1));
        Due.due("warp(100) of a lost rod", Due.OUTSIDE, foot.warp(100));
        Due.due("warp(1) of no realm", Due.NOT, new RulerFoot().warp(1));
        Due.due("warp(-100) of no realm", Due.OUTSIDE, new RulerFoot().warp(-100));
    }

    private static void planing() {
        RulerFoot foot = Due.realmOf("r24 0;");
        Due.due("plane() of a straight rod", 24, foot.plane());
        foot.warp(3);
        Due.due("plane()", 21, foot.plane());
        Due.due("warped()", 1000, foot.warped());
        foot.warp(-4);
        Due.due("plane() the other way", 17, foot.plane());
        foot.warp(17);
        Due.due("plane() to the least", 1, foot.plane());
        Due.due("told(6)", 1, foot.told(6));
        foot.lose(true);
        Due.due("plane() of a lost rod", Due.NOT, foot.plane());
        Due.due("plane() of no realm", Due.NOT, new RulerFoot().plane());
    }

    private static void losing() {
        RulerFoot foot = Due.realmOf("r24 0;");
        Due.due("lose(false)", 0, foot.lose(false));
        Due.due("lose(true)", 0, foot.lose(true));
        Due.due("lose(true) again", 1, foot.lose(true));
        Due.due("told(7)", 1, foot.told(7));
        Due.due("lose(false)", 1, foot.lose(false));
        Due.due("told(7)", 0, foot.told(7));
        Due.due("told(13)", 4, foot.told(13));
        Due.due("lose(true) of no realm", Due.NOT, new RulerFoot().lose(true));
    }

    private static void holding() {
        RulerFoot foot = Due.realmOf("r12 2;");
        Due.due("hold(-20)", 1, foot.hold(-20));
        Due.due("hand(0)", 0, foot.hand(0));
        Due.due("hold(20)", 2, foot.hold(20));
        Due.due("hand(1)", 32, foot.hand(1));
        foot.year(1);
        Due.due("hold(0)", 3, foot.hold(0));
        Due.due("hand(2) by a worn rod", 10, foot.hand(2));
        Due.due("hand(1) as it was", 32, foot.hand(1));
        Due.due("hold(21)", Due.OUTSIDE, foot.hold(21));
        Due.due("hold(-21)", Due.OUTSIDE, foot.hold(-21));
        for (int i = 4; i <= 8; i++) {
            Due.due("hold(0)", i, foot.hold(0));
        }
        Due.due("hold(0) of eight", Due.FULL, foot.hold(0));
        Due.due("hold(21) of eight", Due.OUTSIDE, foot.hold(21));
        foot.lose(true);
        Due.due("hold(0) of eight by a lost rod", Due.NOT, foot.hold(0));
        Due.due("told(9)", 8, foot.told(9));
        Due.due("hold(0) of no realm", Due.NOT, new RulerFoot().hold(0));
    }

    private static void dropping() {
        RulerFoot foot = Due.realmOf("r24 0;");
        Due.due("drop() of none", 0, foot.drop());
        foot.hold(1);
        foot.hold(2);
        foot.lose(true);
        Due.due("drop()", 2, foot.drop());
        Due.due("told(9)", 0, foot.told(9));
        Due.due("hand(0)", Due.UNKNOWN, foot.hand(0));
        foot.lose(false);
        foot.hold(-5);
        foot.hold(-6);
        for (int i = 7; i >= 4; i--) {
            Due.due("undo()", i, foot.undo());
        }
        Due.due("hand(0) again", 25, foot.hand(0));
        Due.due("hand(1) again", 26, foot.hand(1));
        RulerFoot none = new RulerFoot();
        Due.due("drop() of no realm", 0, none.drop());
        Due.due("told(13)", 1, none.told(13));
    }

    private static void shortening() {
        RulerFoot foot = Due.realmOf("r24 0;p60;p999;");
        Due.due("shorten(0, 1)", 59, foot.shorten(0, 1));
        Due.due("shorten(0, 58)", 1, foot.shorten(0, 58));
        Due.due("shorten(0, 999)", 1, foot.shorten(0, 999));
        Due.due("person(1, 0)", 999, foot.person(1, 0));
        Due.due("shorten(1, 999)", 1, foot.shorten(1, 999));
        Due.due("shorten(2, 1)", Due.UNKNOWN, foot.shorten(2, 1));
        Due.due("shorten(-1, 1)", Due.UNKNOWN, foot.shorten(-1, 1));
        Due.due("shorten(0, 0)", Due.OUTSIDE, foot.shorten(0, 0));
        Due.due("shorten(0, 1000)", Due.OUTSIDE, foot.shorten(0, 1000));
        Due.due("shorten(2, 0)", Due.UNKNOWN, foot.shorten(2, 0));
        Due.due("told(13)", 4, foot.told(13));
    }

    private static void drifting() {
        int[] met = new int[8];
        int[] metLost = new int[8];
        for (int seed = 0; seed < 5; seed++) {
            driftingFrom(seed, met, metLost);
        }
        for (int chance = 0; chance < 8; chance++) {
            Due.due("chance " + chance + " was met", 1, met[chance] > 0 ? 1 : 0);
            Due.due("chance " + chance + " was met by a lost rod", 1, metLost[chance] > 0 ? 1 : 0);
        }
        RulerFoot foot = Due.realmOf("r240 1;d5,3,9;");
        Due.due("drift(0)", Due.OUTSIDE, foot.drift(0));
        Due.due("drift(61)", Due.OUTSIDE, foot.drift(61));
        Due.due("drift(1) of no realm", Due.NOT, new RulerFoot().drift(1));
        Due.due("drift(0) of no realm", Due.OUTSIDE, new RulerFoot().drift(0));
    }

    /** The draws are counted here anew, year by year. */
    private static void driftingFrom(int start, int[] met, int[] metLost) {
        RulerFoot foot = Due.realmOf("r240 1;d5,3,9;");
        foot.seed(start);
        Draws draws = new Draws(start);
        int length = 240;
        int bend = 0;
        boolean lost = false;
        int things = 0;
        int last = 0;
        int[] sways = {1, -1, 5};
        for (int year = 0; year < 60; year++) {
            int chance = draws.draw(8);
            met[chance]++;
            metLost[chance] += lost ? 1 : 0;
            if (chance < 2) {
                lost = chance == 0;
            } else if (chance < 4) {
                int drawn = draws.draw(chance == 2 ? 21 : 10);
                if (!lost && chance == 2) {
                    bend = drawn - 10;
                }
                if (!lost && chance == 3) {
                    last = length * drawn + bend;
                    things = Math.min(20, things + 1);
                }
            }
            if (!lost) {
                bend = Math.max(-99, Math.min(99, bend + sways[year % 3]));
                length = Math.max(1, length - 1);
            }
            Due.due("drift(1) in " + year, things, foot.drift(1));
            Due.due("told(5) in " + year, year + 1, foot.told(5));
            Due.due("told(6) in " + year, length, foot.told(6));
            Due.due("told(7) in " + year, lost ? 1 : 0, foot.told(7));
            Due.due("warped() in " + year, bend + 1000, foot.warped());
            if (things > 0) {
                Due.due("thing in " + year, last + 1000, foot.thing(things - 1, 0));
            }
        }
        Due.due("seed(0)", draws.seed(), foot.seed(0));
        RulerFoot other = Due.realmOf("r240 1;d5,3,9;");
        other.seed(start);
        Due.due("drift(60)", things, other.drift(60));
        Due.due("told(6) of one drift", length, other.told(6));
        Due.due("warped() of one drift", bend + 1000, other.warped());
        Due.due("seed(0) of one drift", draws.seed(), other.seed(0));
    }

    private static void driftingKeepsTwenty() {
        RulerFoot foot = Due.realmOf("r240 0;");
        int kept = 0;
        for (int i = 0; i < 40; i++) {
            kept = foot.drift(60);
            foot.lose(false);
        }
        Due.due("drift(60)", 20, kept);
        Due.due("thing(19, 2)", 0, foot.thing(19, 2));
        Due.due("drift is undone", 15, foot.undo());
    }

    private static void undoing() {
        RulerFoot foot = Due.realmOf("r24 1;p50;d5;");
        Due.due("undo() of nothing", Due.NOT, foot.undo());
        foot.seed(9);
        foot.year(2);
        foot.make(1, 0);
        foot.warp(7);
        foot.plane();
        foot.lose(true);
        foot.lose(false);
        foot.hold(3);
        foot.drop();
        foot.shorten(0, 5);
        foot.drift(5);
        Due.due("told(13)", 10, foot.told(13));
        int seed = foot.seed(11);
        foot.seed(seed);
        Due.due("undo() of drift", 9, foot.undo());
        Due.due("told(5)", 2, foot.told(5));
        Due.due("person(0, 0)", 45, foot.person(0, 0));
        Due.due("seed stays", seed, foot.seed(seed));
        Due.due("undo() of shorten", 8, foot.undo());
        Due.due("person(0, 0)", 50, foot.person(0, 0));
        Due.due("undo() of drop", 7, foot.undo());
        Due.due("hand(0)", 18, foot.hand(0));
        Due.due("undo() of hold", 6, foot.undo());
        Due.due("told(9)", 0, foot.told(9));
        Due.due("undo() of lose", 5, foot.undo());
        Due.due("told(7)", 1, foot.told(7));
        Due.due("undo() of lose", 4, foot.undo());
        Due.due("told(7)", 0, foot.told(7));
        Due.due("undo() of plane", 3, foot.undo());
        Due.due("told(6)", 22, foot.told(6));
        Due.due("warped()", 1007, foot.warped());
        Due.due("undo() of warp", 2, foot.undo());
        Due.due("warped()", 1002, foot.warped());
        Due.due("undo() of make", 1, foot.undo());
        Due.due("told(8)", 0, foot.told(8));
        Due.due("undo() of year", 0, foot.undo());
        Due.due("told(5)", 0, foot.told(5));
        Due.due("told(6)", 24, foot.told(6));
        Due.due("warped()", 1000, foot.warped());
        Due.due("undo() of nothing", Due.NOT, foot.undo());
    }

    private static void undoneAreLost() {
        RulerFoot foot = Due.realmOf("r24 0;");
        for (int i = 1; i <= 40; i++) {
            foot.warp(i);
        }
        Due.due("told(13)", 16, foot.told(13));
        for (int i = 15; i >= 0; i--) {
            Due.due("undo()", i, foot.undo());
            Due.due("warped()", 1000 + 24 + i, foot.warped());
        }
        Due.due("undo()", Due.NOT, foot.undo());
        foot.warp(3);
        Due.due("told(13)", 1, foot.told(13));
        foot.undo();
        Due.due("warped()", 1024, foot.warped());
    }

    private static void refusalsAreNotUndone() {
        RulerFoot foot = Due.realmOf("r24 0;p5;");
        foot.lose(true);
        foot.year(0);
        foot.make(1, 1);
        foot.make(99, 1);
        foot.warp(1);
        foot.plane();
        foot.hold(0);
        foot.shorten(1, 1);
        foot.shorten(0, 0);
        foot.drift(0);
        foot.see(1, 1);
        foot.write(0, 1);
        foot.tear();
        foot.seed(1);
        foot.undo();
        Due.due("told(13)", 0, foot.told(13));
        Due.due("told(7)", 0, foot.told(7));
    }
}
