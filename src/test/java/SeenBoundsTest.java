/** Section 3 and promises 36 to 44 at their bounds: each sentence of the document has a test of its own. */
public final class SeenBoundsTest {
    public static void main(String[] args) {
        seeTakes1To9FeetAnd0To9999Hairs();
        seenAre6AtMost();
        rodsAre1To240Long();
        rodsAreWarpedBy9EitherWay();
        rodsOfNothingSeen();
        rodsThatNoneIs();
        doorIsTheLeastOfLike();
        doorOfNoneThatParts();
        writeTakes1To999Hairs();
        theBookHas15AtMost();
        tearTellsBoth();
        judgeTellsTheFirst();
        seedTakes0To2147483647();
        imagesAre0And1();
        imagesThatWereNotKept();
        imagesKeepAllOfSection2();
        imagesLeaveWhatIsSeen();
        nothingIsUndoneBehindAnImage();
        imagesAreGoneBehindRealm();
        Due.end();
    }

    // ---- what is seen

    /** "SEEN (n 1 .. 9, x 0 .. 9999): how much. OUTSIDE" */
    private static void seeTakes1To9FeetAnd0To9999Hairs() {
        RulerFoot foot = new RulerFoot();
        Due.due("see(0, 0)", Due.OUTSIDE, foot.see(0, 0));
        Due.due("see(10, 0)", Due.OUTSIDE, foot.see(10, 0));
        Due.due("see(1, -1)", Due.OUTSIDE, foot.see(1, -1));
        Due.due("see(1, 10000)", Due.OUTSIDE, foot.see(1, 10000));
        Due.due("told(11) behind refusals", 0, foot.told(11));
        Due.due("rods(0) behind refusals", 4560, foot.rods(0));
        Due.due("see(1, 0)", 1, foot.see(1, 0));
        Due.due("see(9, 0)", 2, foot.see(9, 0));
        Due.due("see(1, 9999)", 3, foot.see(1, 9999));
        Due.due("see(9, 9999)", 4, foot.see(9, 9999));
    }

    /** "SEEN (6 at most)"; "FULL (6)." */
    private static void seenAre6AtMost() {
        RulerFoot foot = new RulerFoot();
        for (int i = 1; i <= 6; i++) {
            Due.due("see to " + i, i, foot.see(1, 24));
        }
        Due.due("see to 7", Due.FULL, foot.see(2, 48));
        Due.due("see(0, 48) to 7", Due.OUTSIDE, foot.see(0, 48));
        Due.due("see(2, 10000) to 7", Due.OUTSIDE, foot.see(2, 10000));
        Due.due("told(11) of 6", 6, foot.told(11));
        Due.due("rods(0) of 6", 19, foot.rods(0));
        Due.due("tear() of 6", 6, foot.tear());
        Due.due("see behind tear()", 1, foot.see(2, 48));
        Due.due("rods(1) behind tear()", 20, foot.rods(1));
        // All six count: the last of them leaves one rod.
        RulerFoot last = new RulerFoot();
        for (int i = 1; i <= 5; i++) {
            last.see(1, 24);
        }
        last.see(2, 48);
        rodsAre(last, 1, 24, 1000);
    }

    private static RulerFoot seen(int n, int x) {
        RulerFoot foot = new RulerFoot();
        foot.see(n, x);
        return foot;
    }

    private static void rodsAre(RulerFoot foot, int count, int length, int warp) {
        Due.due("rods(0)", count, foot.rods(0));
        Due.due("rods(1)", length, foot.rods(1));
        Due.due("rods(2)", warp, foot.rods(2));
    }

    /** "a rod of unknown length l (1 to 240)" */
    private static void rodsAre1To240Long() {
        // 1 less 9 .. 1 and 9: by so many feet only the shortest, only the longest.
        rodsAre(seen(9, 0), 1, 1, 991);
        rodsAre(seen(9, 9), 2, 1, 1000);
        rodsAre(seen(9, 2160), 2, 239, 1009);
        rodsAre(seen(9, 2161), 1, 240, 1001);
        rodsAre(seen(9, 2169), 1, 240, 1009);
        rodsAre(seen(9, 2170), 0, Due.NONE, Due.NONE);
        rodsAre(seen(1, 249), 1, 240, 1009);
        rodsAre(seen(1, 250), 0, Due.NONE, Due.NONE);
    }

    /** "and WARP v (-9 to 9)"; "l times n, and v" */
    private static void rodsAreWarpedBy9EitherWay() {
        rodsAre(seen(1, 100), 19, 91, 1009);
        rodsAre(seen(1, 0), 9, 1, 999);
        rodsAre(seen(2, 100), 9, 46, 1008);
        rodsAre(seen(2, 101), 10, 46, 1009);
        RulerFoot least = seen(1, 91);
        least.see(2, 191);
        rodsAre(least, 1, 100, 991);
        RulerFoot most = seen(1, 109);
        most.see(2, 209);
        rodsAre(most, 1, 100, 1009);
        RulerFoot beyond = seen(1, 110);
        beyond.see(2, 210);
        rodsAre(beyond, 0, Due.NONE, Due.NONE);
        RulerFoot below = seen(1, 90);
        below.see(2, 190);
        rodsAre(below, 0, Due.NONE, Due.NONE);
    }

    /** "pairs l, v by which all that is SEEN is so": all pairs, where nothing is */
    private static void rodsOfNothingSeen() {
        rodsAre(new RulerFoot(), 4560, 1, 991);
        RulerFoot torn = seen(1, 100);
        torn.tear();
        rodsAre(torn, 4560, 1, 991);
    }

    /** "RODS: what = 0 how many, 1 the least l, 2 the least v with it, and 1000; NONE. OUTSIDE." */
    private static void rodsThatNoneIs() {
        RulerFoot foot = seen(1, 100);
        foot.see(1, 101);
        rodsAre(foot, 0, Due.NONE, Due.NONE);
        for (RulerFoot one : new RulerFoot[] {foot, new RulerFoot(), seen(1, 100)}) {
            Due.due("rods(-1)", Due.OUTSIDE, one.rods(-1));
            Due.due("rods(3)", Due.OUTSIDE, one.rods(3));
        }
    }

    /** "the greatest part that is alike is least; of like ones the least" */
    private static void doorIsTheLeastOfLike() {
        // By n feet those of one width are as many as 19 warps have of n: 3 of 7, 3 of 8, 3 of 9; 4 of 6.
        Due.due("door() of nothing seen", 7, new RulerFoot().door());
        // What was seen by 1 foot parts by 2 and by all others: the least.
        Due.due("door() of one by 1", 2, seen(1, 100).door());
        for (int n = 2; n <= 9; n++) {
            Due.due("door() of one by " + n, 1, seen(n, 20 * n).door());
        }
        Due.due("door() of two rods", 1, seen(9, 9).door());
        // The rods are 1, -1; 2, -3; .. 5, -9: by 1 foot 0, -1, .. hairs, and no rod of no length is among them.
        Due.due("door() of the shortest rods", 1, seen(2, 1).door());
    }

    /** "NONE: none parts them" */
    private static void doorOfNoneThatParts() {
        Due.due("door() of one rod, the longest", Due.NONE, seen(9, 2169).door());
        Due.due("door() of one rod, the shortest", Due.NONE, seen(9, 0).door());
        Due.due("door() of no rod", Due.NONE, seen(9, 2170).door());
        RulerFoot foot = seen(1, 100);
        Due.due("door()", 2, foot.door());
        foot.see(1, 100);
        Due.due("door() of the same again", 2, foot.door());
        foot.see(2, 200);
        Due.due("door() of what is left", Due.NONE, foot.door());
        foot.see(3, 301);
        Due.due("door() of what cannot be", Due.NONE, foot.door());
    }

    // ---- the book

    /** "An entry behind THE BOOK (1 .. 999): how many. UNKNOWN, OUTSIDE" */
    private static void writeTakes1To999Hairs() {
        RulerFoot foot = Due.realmOf("r24 0;p1;p999;");
        Due.due("write(0, 0)", Due.OUTSIDE, foot.write(0, 0));
        Due.due("write(0, 1000)", Due.OUTSIDE, foot.write(0, 1000));
        Due.due("write(2, 1)", Due.UNKNOWN, foot.write(2, 1));
        Due.due("write(-1, 1)", Due.UNKNOWN, foot.write(-1, 1));
        Due.due("write(2, 0)", Due.UNKNOWN, foot.write(2, 0));
        Due.due("write(-1, 1000)", Due.UNKNOWN, foot.write(-1, 1000));
        Due.due("told(12) behind refusals", 0, foot.told(12));
        Due.due("write(0, 1)", 1, foot.write(0, 1));
        Due.due("write(1, 999)", 2, foot.write(1, 999));
        Due.due("judge()", Due.NONE, foot.judge());
        Due.due("write(0, 999)", 3, foot.write(0, 999));
        Due.due("judge()", 2, foot.judge());
        Due.due("write(0, 1) of no realm", Due.UNKNOWN, new RulerFoot().write(0, 1));
        Due.due("write(0, 0) of no realm", Due.UNKNOWN, new RulerFoot().write(0, 0));
        foot.lose(true);
        Due.due("write(0, 1) by a lost rod", 4, foot.write(0, 1));
    }

    /** "THE BOOK (15 at most)"; "FULL (15)." */
    private static void theBookHas15AtMost() {
        RulerFoot foot = Due.realmOf("r24 0;p60;p41;");
        for (int i = 1; i <= 14; i++) {
            Due.due("write to " + i, i, foot.write(0, 60));
        }
        Due.due("write to 15", 15, foot.write(1, 41));
        Due.due("write to 16", Due.FULL, foot.write(1, 40));
        Due.due("write(1, 1000) to 16", Due.OUTSIDE, foot.write(1, 1000));
        Due.due("write(2, 41) to 16", Due.UNKNOWN, foot.write(2, 41));
        Due.due("told(12) of 15", 15, foot.told(12));
        Due.due("judge() of 15", Due.NONE, foot.judge());
        foot.shorten(1, 1);
        Due.due("judge() of the last", 14, foot.judge());
        Due.due("tear() of 15", 15, foot.tear());
        Due.due("judge() torn", Due.NONE, foot.judge());
        Due.due("write behind tear()", 1, foot.write(1, 41));
        Due.due("judge() behind tear()", 0, foot.judge());
    }

    /** "Nothing SEEN, THE BOOK is empty: how much both had." */
    private static void tearTellsBoth() {
        RulerFoot foot = Due.realmOf("r24 0;p60;");
        Due.due("tear() of nothing", 0, foot.tear());
        for (int i = 0; i < 6; i++) {
            foot.see(1, 24);
        }
        for (int i = 0; i < 15; i++) {
            foot.write(0, 59);
        }
        foot.hold(0);
        foot.make(1, 0);
        Due.due("tear() of all", 21, foot.tear());
        Due.due("tear() again", 0, foot.tear());
        Due.due("told(11)", 0, foot.told(11));
        Due.due("told(12)", 0, foot.told(12));
        Due.due("told(8) stays", 1, foot.told(8));
        Due.due("told(9) stays", 1, foot.told(9));
        Due.due("told(13) stays", 2, foot.told(13));
        foot.see(1, 24);
        Due.due("tear() of what is seen", 1, foot.tear());
        foot.write(0, 60);
        Due.due("tear() of what is written", 1, foot.tear());
        foot.see(1, 24);
        foot.undo();
        Due.due("undo() leaves what is seen", 1, foot.told(11));
    }

    /** "WRONG: the first that is otherwise now; NONE." */
    private static void judgeTellsTheFirst() {
        RulerFoot foot = Due.realmOf("r24 0;p60;p41;");
        Due.due("judge() of no entry", Due.NONE, foot.judge());
        foot.write(0, 60);
        Due.due("judge() of a right one", Due.NONE, foot.judge());
        foot.write(1, 40);
        foot.write(0, 59);
        Due.due("judge() of the first", 1, foot.judge());
        foot.shorten(1, 1);
        Due.due("judge() of another first", 2, foot.judge());
        foot.shorten(0, 1);
        Due.due("judge() of entry 0", 0, foot.judge());
        foot.undo();
        foot.undo();
        Due.due("judge() undone", 1, foot.judge());
        Due.due("judge() of no realm", Due.NONE, new RulerFoot().judge());
    }

    // ---- draws, images

    /** "THE SEED becomes v (0 .. 2147483647): what it was. OUTSIDE."; "0 at first" */
    private static void seedTakes0To2147483647() {
        RulerFoot foot = new RulerFoot();
        Due.due("seed(-1)", Due.OUTSIDE, foot.seed(-1));
        Due.due("seed(least)", Due.OUTSIDE, foot.seed(Integer.MIN_VALUE));
        Due.due("seed(2147483647)", 0, foot.seed(Integer.MAX_VALUE));
        Due.due("seed(-1) again", Due.OUTSIDE, foot.seed(-1));
        Due.due("seed(0)", Integer.MAX_VALUE, foot.seed(0));
        Due.due("seed(1)", 0, foot.seed(1));
        Due.due("seed(1) again", 1, foot.seed(1));
    }

    /** "IMAGES 0, 1"; "IMAGE i becomes what is so: 1. UNKNOWN." */
    private static void imagesAre0And1() {
        RulerFoot foot = Due.realmOf("r24 0;");
        Due.due("keep(-1)", Due.UNKNOWN, foot.keep(-1));
        Due.due("keep(2)", Due.UNKNOWN, foot.keep(2));
        foot.warp(10);
        Due.due("keep(0)", 1, foot.keep(0));
        foot.warp(11);
        Due.due("keep(1)", 1, foot.keep(1));
        foot.warp(12);
        Due.due("goBack(-1)", Due.UNKNOWN, foot.goBack(-1));
        Due.due("goBack(2)", Due.UNKNOWN, foot.goBack(2));
        Due.due("warped() behind refusals", 1012, foot.warped());
        Due.due("told(13) behind refusals", 1, foot.told(13));
        Due.due("goBack(0)", 1, foot.goBack(0));
        Due.due("warped() of image 0", 1010, foot.warped());
        Due.due("goBack(1)", 1, foot.goBack(1));
        Due.due("warped() of image 1", 1011, foot.warped());
        foot.warp(13);
        Due.due("keep(1) anew", 1, foot.keep(1));
        Due.due("goBack(0) again", 1, foot.goBack(0));
        Due.due("warped() of image 0 again", 1010, foot.warped());
        Due.due("goBack(1) of the later", 1, foot.goBack(1));
        Due.due("warped() of the later", 1013, foot.warped());
    }

    /** "NOT: it was not kept." */
    private static void imagesThatWereNotKept() {
        RulerFoot foot = Due.realmOf("r24 0;");
        foot.warp(5);
        Due.due("goBack(0) of none", Due.NOT, foot.goBack(0));
        Due.due("goBack(1) of none", Due.NOT, foot.goBack(1));
        Due.due("warped()", 1005, foot.warped());
        Due.due("told(13)", 1, foot.told(13));
        foot.keep(1);
        Due.due("goBack(0) of image 1 alone", Due.NOT, foot.goBack(0));
        Due.due("goBack(1)", 1, foot.goBack(1));
        Due.due("goBack(2) is not known", Due.UNKNOWN, foot.goBack(2));
    }

    private static void some(RulerFoot foot, boolean lost) {
        String text = "r24 1;n7;o10 30;p60;p41;d5,0,9;";
        for (int i = 0; i < text.length(); i++) {
            foot.feed(text.charAt(i));
        }
        foot.realm();
        foot.seed(99);
        foot.warp(6);
        foot.year(2);
        for (int i = 0; i < 20; i++) {
            foot.make(i, 5);
        }
        foot.hold(3);
        foot.hold(-4);
        foot.shorten(1, 4);
        foot.see(2, 48);
        foot.write(1, 41);
        foot.lose(lost);
        foot.keep(1);
    }

    /** "IMAGES 0, 1 keep all of section 2, THE SEED." */
    private static void imagesKeepAllOfSection2() {
        for (boolean lost : new boolean[] {false, true}) {
            Shown.unchanged("all that is done and goBack()", foot -> some(foot, lost), foot -> {
                foot.lose(false);
                foot.year(60);
                foot.make(20, 11);
                foot.warp(-99);
                foot.plane();
                foot.hold(20);
                foot.drop();
                foot.hold(-20);
                foot.shorten(0, 999);
                foot.shorten(1, 999);
                foot.drift(60);
                foot.seed(12345);
                foot.lose(!lost);
                foot.goBack(1);
            });
        }
        RulerFoot none = new RulerFoot();
        none.seed(7);
        Due.due("keep(0) of no realm", 1, none.keep(0));
        none.seed(8);
        Due.due("goBack(0) of no realm", 1, none.goBack(0));
        Due.due("seed of no realm", 7, none.seed(0));
    }

    /** "IMAGES 0, 1 keep all of section 2, THE SEED": nothing that is SEEN, no BOOK, no TEXT */
    private static void imagesLeaveWhatIsSeen() {
        RulerFoot foot = Due.realmOf("r24 0;p60;");
        foot.keep(0);
        foot.see(1, 24);
        foot.write(0, 59);
        foot.feed('r');
        foot.goBack(0);
        Due.due("told(11)", 1, foot.told(11));
        Due.due("told(12)", 1, foot.told(12));
        Due.due("told(4)", 1, foot.told(4));
        foot.keep(0);
        Due.due("told(11) kept", 1, foot.told(11));
        foot.tear();
        foot.goBack(0);
        Due.due("told(11) torn", 0, foot.told(11));
        Due.due("told(12) torn", 0, foot.told(12));
    }

    /** "(nothing can be undone then)" of keep and of goBack */
    private static void nothingIsUndoneBehindAnImage() {
        RulerFoot foot = Due.realmOf("r24 0;");
        foot.warp(5);
        foot.warp(6);
        foot.keep(0);
        Due.due("told(13) kept", 0, foot.told(13));
        Due.due("undo() kept", Due.NOT, foot.undo());
        Due.due("warped() kept", 1006, foot.warped());
        for (int i = 0; i < 20; i++) {
            foot.warp(i);
        }
        Due.due("told(13) done", 16, foot.told(13));
        foot.goBack(0);
        Due.due("told(13) gone back", 0, foot.told(13));
        Due.due("undo() gone back", Due.NOT, foot.undo());
        Due.due("warped() gone back", 1006, foot.warped());
        foot.warp(50);
        Due.due("undo() of one", 0, foot.undo());
        Due.due("warped() undone", 1006, foot.warped());
    }

    /** "IMAGES, what could be undone are gone" */
    private static void imagesAreGoneBehindRealm() {
        RulerFoot foot = Due.realmOf("r24 0;");
        foot.keep(0);
        foot.keep(1);
        Due.due("realm() with a fault", -11, Due.tell(foot, "x"));
        Due.due("goBack(0) behind a fault", 1, foot.goBack(0));
        Due.due("realm()", 25, Due.tell(foot, "r25 0;"));
        Due.due("goBack(0) behind realm()", Due.NOT, foot.goBack(0));
        Due.due("goBack(1) behind realm()", Due.NOT, foot.goBack(1));
        foot.keep(1);
        Due.due("realm() of nothing", 0, foot.realm());
        Due.due("goBack(1) behind realm() of nothing", Due.NOT, foot.goBack(1));
    }
}
