/** Promises 22 to 35: what is tried from now, by which nothing changes. */
public final class TriedTest {
    public static void main(String[] args) {
        longAt();
        firstShort();
        planeWhen();
        had();
        parts();
        fold();
        posts();
        toShorten();
        wasWarped();
        alike();
        hands();
        tens();
        lean();
        foundBy();
        nothingChanges();
        Due.end();
    }

    private static void longAt() {
        RulerFoot foot = Due.realmOf("r24 2;d5,9,0;");
        foot.year(1);
        Due.due("longAt(0, 0)", 22, foot.longAt(0, 0));
        Due.due("longAt(0, 1)", 1001, foot.longAt(0, 1));
        Due.due("longAt(1, 1)", 1006, foot.longAt(1, 1));
        Due.due("longAt(2, 0)", 18, foot.longAt(2, 0));
        Due.due("longAt(2, 1)", 1002, foot.longAt(2, 1));
        Due.due("longAt(60, 0)", 1, foot.longAt(60, 0));
        foot.lose(true);
        Due.due("longAt(2, 0) as if not lost", 18, foot.longAt(2, 0));
        Due.due("longAt(2, 1) as if not lost", 1002, foot.longAt(2, 1));
        Due.due("told(7)", 1, foot.told(7));
        Due.due("longAt(-1, 0)", Due.OUTSIDE, foot.longAt(-1, 0));
        Due.due("longAt(61, 0)", Due.OUTSIDE, foot.longAt(61, 0));
        Due.due("longAt(0, 2)", Due.OUTSIDE, foot.longAt(0, 2));
        Due.due("longAt(0, -1)", Due.OUTSIDE, foot.longAt(0, -1));
        Due.due("longAt(0, 0) of no realm", Due.NOT, new RulerFoot().longAt(0, 0));
        Due.due("longAt(0, 2) of no realm", Due.OUTSIDE, new RulerFoot().longAt(0, 2));
        RulerFoot bent = Due.realmOf("r24 0;d0,9,9;");
        bent.warp(-97);
        // Held at -99, then twice 5 more.
        Due.due("longAt(3, 1) is held", 911, bent.longAt(3, 1));
    }

    private static void firstShort() {
        RulerFoot foot = Due.realmOf("r240 1;");
        Due.due("firstShort(240)", 1, foot.firstShort(240));
        Due.due("firstShort(41)", 200, foot.firstShort(41));
        Due.due("firstShort(40)", Due.NONE, foot.firstShort(40));
        Due.due("firstShort(1)", Due.NONE, foot.firstShort(1));
        Due.due("firstShort(0)", Due.OUTSIDE, foot.firstShort(0));
        Due.due("firstShort(241)", Due.OUTSIDE, foot.firstShort(241));
        foot.year(10);
        foot.lose(true);
        Due.due("firstShort(240)", 0, foot.firstShort(240));
        Due.due("firstShort(230)", 1, foot.firstShort(230));
        RulerFoot other = Due.realmOf("r24 7;");
        Due.due("firstShort(17)", 2, other.firstShort(17));
        Due.due("firstShort(2)", 4, other.firstShort(2));
        RulerFoot lasting = Due.realmOf("r24 0;");
        Due.due("firstShort(24)", Due.NONE, lasting.firstShort(24));
        Due.due("firstShort(25)", 0, lasting.firstShort(25));
        Due.due("firstShort(1) of no realm", Due.NOT, new RulerFoot().firstShort(1));
        Due.due("firstShort(0) of no realm", Due.OUTSIDE, new RulerFoot().firstShort(0));
    }

    private static void planeWhen() {
        RulerFoot foot = Due.realmOf("r24 1;d7;");
        foot.warp(-10);
        // Planed: 14, 16, 18, 20 (by -1), 18 (by 2), ..
        Due.due("planeWhen(0, 0)", 0, foot.planeWhen(0, 0));
        Due.due("planeWhen(0, 1)", 14, foot.planeWhen(0, 1));
        Due.due("planeWhen(2, 0)", 2, foot.planeWhen(2, 0));
        Due.due("planeWhen(2, 1)", 18, foot.planeWhen(2, 1));
        Due.due("planeWhen(60, 0)", 3, foot.planeWhen(60, 0));
        Due.due("planeWhen(60, 1)", 20, foot.planeWhen(60, 1));
        foot.lose(true);
        Due.due("planeWhen(60, 0) as if not lost", 3, foot.planeWhen(60, 0));
        Due.due("planeWhen(-1, 0)", Due.OUTSIDE, foot.planeWhen(-1, 0));
        Due.due("planeWhen(61, 0)", Due.OUTSIDE, foot.planeWhen(61, 0));
        Due.due("planeWhen(0, 2)", Due.OUTSIDE, foot.planeWhen(0, 2));
        Due.due("planeWhen(0, -1)", Due.OUTSIDE, foot.planeWhen(0, -1));
        Due.due("planeWhen(0, 0) of no realm", Due.NOT, new RulerFoot().planeWhen(0, 0));
        RulerFoot like = Due.realmOf("r24 0;d6;");
        like.warp(-3);
        // Planed: 21, 23 (by -1), 23 (by 1), ..: the first of like ones.
        Due.due("planeWhen(9, 0) of like ones", 1, like.planeWhen(9, 0));
        Due.due("planeWhen(9, 1) of like ones", 23, like.planeWhen(9, 1));
        RulerFoot thin = Due.realmOf("r12 0;d0;");
        thin.warp(99);
        Due.due("planeWhen(9, 1) is 1 at least", 1, thin.planeWhen(9, 1));
        Due.due("planeWhen(9, 0) is 1 at least", 0, thin.planeWhen(9, 0));
    }

    private static void had() {
        RulerFoot foot = Due.realmOf("r24 1;n14;n9;n200;");
        Due.due("had(0)", 0, foot.had(0));
        Due.due("had(24)", 1, foot.had(24));
        Due.due("had(14)", 1, foot.had(14));
        Due.due("had(5)", 2, foot.had(5));
        Due.due("had(48)", 2, foot.had(48));
        Due.due("had(1)", 3, foot.had(1));
        Due.due("had(200) is not by a nick beyond", 10, foot.had(200));
        Due.due("had(480)", 20, foot.had(480));
        Due.due("had(481)", Due.NONE, foot.had(481));
        Due.due("had(-1)", Due.OUTSIDE, foot.had(-1));
        Due.due("had(1000)", Due.OUTSIDE, foot.had(1000));
        foot.lose(true);
        Due.due("had(5) of a lost rod", 2, foot.had(5));
        Due.due("had(0) of no realm", Due.NOT, new RulerFoot().had(0));
        Due.due("had(1000) of no realm", Due.OUTSIDE, new RulerFoot().had(1000));
        RulerFoot even = Due.realmOf("r24 0;n4;");
        Due.due("had(3)", Due.NONE, even.had(3));
        Due.due("had(20)", 2, even.had(20));
        RulerFoot wide = Due.realmOf("r240 0;n201;");
        Due.due("had(999)", 6, wide.had(999));
        Due.due("had(998)", Due.NONE, wide.had(998));
        RulerFoot worn = Due.realmOf("r15 1;n14;");
        Due.due("had(14)", 1, worn.had(14));
        worn.year(1);
        Due.due("had(14) of the whole", 1, worn.had(14));
        worn.year(1);
        Due.due("had(1) without the nick", Due.NONE, worn.had(1));
        Due.due("had(26) by the whole alone", 2, worn.had(26));
        RulerFoot least = Due.realmOf("r12 9;n1;");
        least.year(2);
        Due.due("had(20) by one hair", 20, least.had(20));
        Due.due("had(21) by one hair", Due.NONE, least.had(21));
        RulerFoot all = Due.realmOf("r240 0;n1;n2;n3;n4;n5;");
        Due.due("had(999) by six lengths", 12, all.had(999));
        Due.due("had(235) by six lengths", 2, all.had(235));
    }

    private static void parts() {
        RulerFoot foot = Due.realmOf("r24 1;n14;n9;n200;");
        int[] want = {5, 9, 10, 14, 15, 18, 23, 24};
        Due.due("parts(NONE)", want.length, foot.parts(Due.NONE));
        for (int i = 0; i < want.length; i++) {
            Due.due("parts(" + i + ")", want[i], foot.parts(i));
        }
        Due.due("parts(8)", Due.NONE, foot.parts(8));
        Due.due("parts(-2)", Due.NONE, foot.parts(-2));
        Due.due("parts(most)", Due.NONE, foot.parts(Integer.MAX_VALUE));
        Due.due("parts(NONE) of no realm", Due.NOT, new RulerFoot().parts(Due.NONE));
        Due.due("parts(0) of no realm", Due.NOT, new RulerFoot().parts(0));
        RulerFoot plain = Due.realmOf("r24 0;");
        Due.due("parts(NONE)", 1, plain.parts(Due.NONE));
        Due.due("parts(0)", 24, plain.parts(0));
        RulerFoot fine = Due.realmOf("r24 0;n23;");
        Due.due("parts(0) of one hair", 1, fine.parts(0));
        Due.due("parts(NONE) of three", 3, fine.parts(Due.NONE));
    }

    private static void fold() {
        RulerFoot foot = new RulerFoot();
        Due.due("fold(0)", 0, foot.fold(0));
        Due.due("fold(1)", Due.NONE, foot.fold(1));
        Due.due("fold(2)", 1, foot.fold(2));
        Due.due("fold(998)", 499, foot.fold(998));
        Due.due("fold(999)", Due.NONE, foot.fold(999));
        Due.due("fold(-1)", Due.OUTSIDE, foot.fold(-1));
        Due.due("fold(1000)", Due.OUTSIDE, foot.fold(1000));
    }

    private static void posts() {
        // Measured are 10, 20 and 30.
        RulerFoot foot = Due.realmOf("r20 0;o10 30;o10 20;o30 40;o90 99;p20;p40;p60;");
        int[] want = {0, 1, 2, Due.NONE};
        Due.due("posts(NONE)", 3, foot.posts(Due.NONE));
        for (int o = 0; o < want.length; o++) {
            Due.due("posts(" + o + ")", want[o], foot.posts(o));
        }
        Due.due("posts(4)", Due.UNKNOWN, foot.posts(4));
        Due.due("posts(-2)", Due.UNKNOWN, foot.posts(-2));
        // The least person of office 0 gives way where more offices are filled by it.
        RulerFoot giving = Due.realmOf("r20 0;o10 20;o10 10;p20;p40;");
        Due.due("posts(NONE)", 2, giving.posts(Due.NONE));
        Due.due("posts(0)", 1, giving.posts(0));
        Due.due("posts(1)", 0, giving.posts(1));
        // Of like ones the earlier office gets the person.
        RulerFoot like = Due.realmOf("r20 0;o10 10;o10 10;p40;p20;");
        Due.due("posts(NONE)", 1, like.posts(Due.NONE));
        Due.due("posts(0)", 1, like.posts(0));
        Due.due("posts(1)", Due.NONE, like.posts(1));
        like.shorten(0, 20);
        Due.due("posts(NONE) shortened", 2, like.posts(Due.NONE));
        Due.due("posts(0) shortened", 0, like.posts(0));
        Due.due("posts(1) shortened", 1, like.posts(1));
        RulerFoot six = Due.realmOf("r100 0;o1 6;o1 5;o1 4;o1 3;o1 2;o1 1;p10;p20;p30;p40;p50;p60;");
        Due.due("posts(NONE) of six", 6, six.posts(Due.NONE));
        for (int o = 0; o < 6; o++) {
            Due.due("posts(" + o + ") of six", 5 - o, six.posts(o));
        }
        // An office that gets none takes nobody from a later one; an earlier realm leaves nothing behind.
        Due.due("realm()", 20, Due.tell(six, "r20 0;o90 99;o10 10;p20;"));
        Due.due("posts(NONE) of another realm", 1, six.posts(Due.NONE));
        Due.due("posts(0) of another realm", Due.NONE, six.posts(0));
        Due.due("posts(1) of another realm", 0, six.posts(1));
        Due.due("posts(NONE) of no realm", 0, new RulerFoot().posts(Due.NONE));
        Due.due("posts(0) of no realm", Due.UNKNOWN, new RulerFoot().posts(0));
    }

    private static void toShorten() {
        RulerFoot foot = Due.realmOf("r24 0;o10 20;o20 30;o70 80;o1 1;p60;p41;p120;p48;");
        Due.due("toShorten(3, 0)", 0, foot.toShorten(3, 0));
        Due.due("toShorten(0, 0)", 10, foot.toShorten(0, 0));
        Due.due("toShorten(2, 1)", 46, foot.toShorten(2, 1));
        Due.due("toShorten(1, 1)", Due.NONE, foot.toShorten(1, 1));
        Due.due("toShorten(2, 2)", Due.NONE, foot.toShorten(2, 2));
        // 10 times 4 / 24 is 1.
        Due.due("toShorten(0, 3)", 56, foot.toShorten(0, 3));
        Due.due("toShorten(4, 0)", Due.UNKNOWN, foot.toShorten(4, 0));
        Due.due("toShorten(-1, 0)", Due.UNKNOWN, foot.toShorten(-1, 0));
        Due.due("toShorten(0, 4)", Due.UNKNOWN, foot.toShorten(0, 4));
        Due.due("toShorten(0, -1)", Due.UNKNOWN, foot.toShorten(0, -1));
        // By a rod of 3 hairs some measures cannot be: 13, 16, 20 are, 14 is not.
        RulerFoot coarse = Due.realmOf("r12 9;o14 15;o10 13;p999;p4;p3;");
        coarse.year(1);
        Due.due("toShorten(0, 0) between", Due.NONE, coarse.toShorten(0, 0));
        Due.due("toShorten(0, 1)", 995, coarse.toShorten(0, 1));
        Due.due("toShorten(1, 1)", 0, coarse.toShorten(1, 1));
        Due.due("toShorten(2, 1)", 0, coarse.toShorten(2, 1));
        RulerFoot least = Due.realmOf("r240 0;o1 1;p1;p25;");
        Due.due("toShorten(0, 0) of one hair", Due.NONE, least.toShorten(0, 0));
        Due.due("toShorten(1, 0)", 0, least.toShorten(1, 0));
        RulerFoot one = Due.realmOf("r12 9;o10 10;p999;");
        one.year(2);
        Due.due("toShorten(0, 0) to one hair", 998, one.toShorten(0, 0));
    }

    private static void wasWarped() {
        RulerFoot foot = Due.realmOf("r24 1;");
        foot.warp(3);
        foot.make(1, 0);
        foot.make(2, 6);
        foot.year(1);
        foot.make(1, 0);
        Due.due("wasWarped(0, 24, 0)", 1, foot.wasWarped(0, 24, 0));
        Due.due("wasWarped(0, 24, 1)", 1003, foot.wasWarped(0, 24, 1));
        Due.due("wasWarped(0, 23, 0)", 0, foot.wasWarped(0, 23, 0));
        Due.due("wasWarped(0, 23, 1)", Due.NONE, foot.wasWarped(0, 23, 1));
        Due.due("wasWarped(1, 30, 0)", 1, foot.wasWarped(1, 30, 0));
        Due.due("wasWarped(1, 30, 1)", 996, foot.wasWarped(1, 30, 1));
        Due.due("wasWarped(1, 125, 1)", 901, foot.wasWarped(1, 125, 1));
        Due.due("wasWarped(1, 126, 1)", Due.NONE, foot.wasWarped(1, 126, 1));
        Due.due("wasWarped(1, 126, 0)", 0, foot.wasWarped(1, 126, 0));
        Due.due("wasWarped(2, 1, 0)", 199, foot.wasWarped(2, 1, 0));
        Due.due("wasWarped(9999, 240, 1)", 901, foot.wasWarped(9999, 240, 1));
        Due.due("wasWarped(-1, 1, 0)", Due.OUTSIDE, foot.wasWarped(-1, 1, 0));
        Due.due("wasWarped(10000, 1, 0)", Due.OUTSIDE, foot.wasWarped(10000, 1, 0));
        Due.due("wasWarped(0, 0, 0)", Due.OUTSIDE, foot.wasWarped(0, 0, 0));
        Due.due("wasWarped(0, 241, 0)", Due.OUTSIDE, foot.wasWarped(0, 241, 0));
        Due.due("wasWarped(0, 1, 2)", Due.OUTSIDE, foot.wasWarped(0, 1, 2));
        Due.due("wasWarped(0, 1, -1)", Due.OUTSIDE, foot.wasWarped(0, 1, -1));
        RulerFoot bent = Due.realmOf("r12 0;");
        bent.warp(99);
        bent.make(0, 0);
        Due.due("wasWarped(0, 240, 1)", 1099, bent.wasWarped(0, 240, 1));
        bent.make(0, 1);
        Due.due("wasWarped(0, 12, 1)", 1099, bent.wasWarped(0, 12, 1));
        Due.due("wasWarped(0, 11, 0)", 0, bent.wasWarped(0, 11, 0));
        Due.due("wasWarped(0, 23, 0) by the cut", 1, bent.wasWarped(0, 23, 0));
        bent.warp(98);
        bent.make(0, 0);
        Due.due("wasWarped(0, 12, 0) of two warps", 0, bent.wasWarped(0, 12, 0));
    }

    private static void alike() {
        RulerFoot foot = Due.realmOf("r24 0;");
        Due.due("alike(NONE)", 0, foot.alike(Due.NONE));
        Due.due("alike(0)", Due.NONE, foot.alike(0));
        foot.make(1, 0);
        foot.make(2, 0);
        foot.make(1, 0);
        foot.make(2, 0);
        foot.warp(12);
        foot.make(0, 6);
        int[] want = {2, 4, 103, 204};
        Due.due("alike(NONE)", want.length, foot.alike(Due.NONE));
        for (int i = 0; i < want.length; i++) {
            Due.due("alike(" + i + ")", want[i], foot.alike(i));
        }
        Due.due("alike(4)", Due.NONE, foot.alike(4));
        Due.due("alike(-2)", Due.NONE, foot.alike(-2));
        for (int i = 0; i < 20; i++) {
            foot.make(1, 0);
        }
        Due.due("alike(NONE) of twenty", 190, foot.alike(Due.NONE));
        Due.due("alike(189)", 1819, foot.alike(189));
    }

    private static void hands() {
        RulerFoot foot = Due.realmOf("r24 1;");
        for (int what = 0; what < 4; what++) {
            Due.due("hands(" + what + ") of none", Due.NONE, foot.hands(what));
        }
        Due.due("hands(4)", Due.OUTSIDE, foot.hands(4));
        Due.due("hands(-1)", Due.OUTSIDE, foot.hands(-1));
        foot.hold(5);
        handsAre(foot, 29, 29, 0, 0);
        foot.hold(-3);
        handsAre(foot, 25, 21, 0, 1);
        foot.hold(-3);
        // 29, 21, 21: the mean is 23.
        handsAre(foot, 23, 21, 0, 1);
        foot.hold(8);
        // 29, 21, 21, 32: the mean is 25.
        handsAre(foot, 25, 21, 3, 1);
        foot.hold(1);
        // 29, 21, 21, 32, 25: the mean is 25.
        handsAre(foot, 25, 25, 3, 4);
        foot.year(3);
        Due.due("hands(3) by a worn rod", 1, foot.hands(3));
        // The mean is the cut one: of 24 and 27 it is 25, and 27 is farther off.
        RulerFoot cut = Due.realmOf("r24 0;");
        cut.hold(0);
        cut.hold(3);
        handsAre(cut, 25, 24, 1, 0);
        RulerFoot like = Due.realmOf("r24 0;");
        like.hold(2);
        like.hold(-2);
        handsAre(like, 24, 22, 0, 0);
    }

    private static void handsAre(RulerFoot foot, int mean, int middle, int farthest, int nearest) {
        Due.due("hands(0)", mean, foot.hands(0));
        Due.due("hands(1)", middle, foot.hands(1));
        Due.due("hands(2)", farthest, foot.hands(2));
        Due.due("hands(3)", nearest, foot.hands(3));
    }

    private static void tens() {
        RulerFoot foot = new RulerFoot();
        Due.due("tens(0, 0, 0)", 0, foot.tens(0, 0, 0));
        Due.due("tens(2, 7, 0)", 25, foot.tens(2, 7, 0));
        Due.due("tens(2, 7, 1)", 10, foot.tens(2, 7, 1));
        Due.due("tens(999, 11, 0)", 9999, foot.tens(999, 11, 0));
        Due.due("tens(999, 11, 1)", 2, foot.tens(999, 11, 1));
        Due.due("tens(-1, 0, 0)", Due.OUTSIDE, foot.tens(-1, 0, 0));
        Due.due("tens(1000, 0, 0)", Due.OUTSIDE, foot.tens(1000, 0, 0));
        Due.due("tens(0, -1, 0)", Due.OUTSIDE, foot.tens(0, -1, 0));
        Due.due("tens(0, 12, 0)", Due.OUTSIDE, foot.tens(0, 12, 0));
        Due.due("tens(0, 0, 2)", Due.OUTSIDE, foot.tens(0, 0, 2));
        Due.due("tens(0, 0, -1)", Due.OUTSIDE, foot.tens(0, 0, -1));
    }

    private static void lean() {
        RulerFoot foot = new RulerFoot();
        Due.due("lean(9, 1, 2)", 3, foot.lean(9, 1, 2));
        Due.due("lean(10, 1, 2)", 4, foot.lean(10, 1, 2));
        Due.due("lean(999, 1, 0)", 999, foot.lean(999, 1, 0));
        Due.due("lean(999, 0, 1)", 999, foot.lean(999, 0, 1));
        Due.due("lean(1, 99, 99)", 1, foot.lean(1, 99, 99));
        Due.due("lean(0, 0, 0)", 0, foot.lean(0, 0, 0));
        Due.due("lean(0, 5, 5)", 0, foot.lean(0, 5, 5));
        Due.due("lean(1, 0, 0)", Due.NONE, foot.lean(1, 0, 0));
        Due.due("lean(-1, 0, 0)", Due.OUTSIDE, foot.lean(-1, 0, 0));
        Due.due("lean(1000, 0, 0)", Due.OUTSIDE, foot.lean(1000, 0, 0));
        Due.due("lean(0, -1, 0)", Due.OUTSIDE, foot.lean(0, -1, 0));
        Due.due("lean(0, 100, 0)", Due.OUTSIDE, foot.lean(0, 100, 0));
        Due.due("lean(0, 0, -1)", Due.OUTSIDE, foot.lean(0, 0, -1));
        Due.due("lean(0, 0, 100)", Due.OUTSIDE, foot.lean(0, 0, 100));
    }

    private static void foundBy() {
        RulerFoot foot = new RulerFoot();
        Due.due("foundBy(0, 100)", 1000000000, foot.foundBy(0, 100));
        Due.due("foundBy(60, 0)", 1000000000, foot.foundBy(60, 0));
        Due.due("foundBy(1, 100)", 0, foot.foundBy(1, 100));
        Due.due("foundBy(3, 10)", 729000000, foot.foundBy(3, 10));
        // Each year is cut: 117 times 7 / 100 is 8.
        Due.due("foundBy(5, 99)", 0, foot.foundBy(5, 99));
        Due.due("foundBy(4, 99)", 10, foot.foundBy(4, 99));
        Due.due("foundBy(5, 97)", 24, foot.foundBy(5, 97));
        Due.due("foundBy(6, 93)", 117, foot.foundBy(6, 93));
        Due.due("foundBy(7, 93)", 8, foot.foundBy(7, 93));
        Due.due("foundBy(-1, 0)", Due.OUTSIDE, foot.foundBy(-1, 0));
        Due.due("foundBy(61, 0)", Due.OUTSIDE, foot.foundBy(61, 0));
        Due.due("foundBy(0, -1)", Due.OUTSIDE, foot.foundBy(0, -1));
        Due.due("foundBy(0, 101)", Due.OUTSIDE, foot.foundBy(0, 101));
    }

    private static void nothingChanges() {
        RulerFoot foot = Due.realmOf("r24 1;n7;o10 20;p60;d5;");
        foot.warp(4);
        foot.longAt(60, 0);
        foot.firstShort(1);
        foot.planeWhen(60, 0);
        foot.had(999);
        foot.parts(0);
        foot.posts(0);
        foot.toShorten(0, 0);
        foot.wasWarped(0, 24, 0);
        foot.hands(0);
        foot.foundBy(60, 1);
        Due.due("told(5)", 0, foot.told(5));
        Due.due("told(6)", 24, foot.told(6));
        Due.due("warped()", 1004, foot.warped());
        Due.due("person(0, 0)", 60, foot.person(0, 0));
        Due.due("told(13)", 1, foot.told(13));
    }
}
