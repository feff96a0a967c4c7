import java.util.function.Consumer;
import java.util.function.IntUnaryOperator;

/** Section 3 and promises 22 to 35 at their bounds: each sentence of the document has a test of its own. */
public final class TriedBoundsTest {
    public static void main(String[] args) {
        longAtTakes0To60Years();
        longAtIsHeldEachYear();
        longAtIsAsIfNotLost();
        firstShortTakes1To240Hairs();
        firstShortIsWithin200Years();
        planeWhenTakes0To60Years();
        planeWhenIsTheFirstOfLike();
        planeWhenIs1AtLeast();
        hadTakes0To999Hairs();
        hadIsIn20TimesAtMost();
        hadIsByNicksBelowTheWhole();
        hadIsOfEveryPlace();
        partsAreFrom1ToTheWhole();
        partsAreHadInTwoTimes();
        foldTakes0To999Hairs();
        postsOfNobodyAndOfSix();
        postsAreTheMost();
        postsAreTheFirstOfLike();
        shorteningIsTheLeast();
        nobodyIsShortenedBelow1();
        wasWarpedTakesItsNumbers();
        wasWarpedIs99EitherWay();
        wasWarpedIsByThingsThatAreKept();
        alikeOfNoneAndOfTwenty();
        handsOfNoneAreNone();
        theMeanIsCut();
        theMiddleOfAnEvenNumberIsTheLesser();
        theFarthestIsTheLeastOfLike();
        theNearestIsTheLeastOfLike();
        tensTakeTheirNumbers();
        leanTakesItsNumbers();
        roadsThatNeverMeet();
        foundByTakesItsNumbers();
        foundByIsCutEachYear();
        nothingChanges();
        Due.end();
    }

    private static RulerFoot none() {
        return new RulerFoot();
    }

    // ---- how long it is when

    /** "LONG AT: how long, how WARPED THE ROD is behind n YEARS (0 .. 60)"; "OUTSIDE, NOT: no REALM." */
    private static void longAtTakes0To60Years() {
        RulerFoot foot = Due.realmOf("r240 1;d5,4;");
        Due.due("longAt(-1, 0)", Due.OUTSIDE, foot.longAt(-1, 0));
        Due.due("longAt(0, 0)", 240, foot.longAt(0, 0));
        Due.due("longAt(0, 1)", 1000, foot.longAt(0, 1));
        Due.due("longAt(60, 0)", 180, foot.longAt(60, 0));
        Due.due("longAt(60, 1)", 1030, foot.longAt(60, 1));
        Due.due("longAt(61, 0)", Due.OUTSIDE, foot.longAt(61, 0));
        Due.due("longAt(1, -1)", Due.OUTSIDE, foot.longAt(1, -1));
        Due.due("longAt(1, 2)", Due.OUTSIDE, foot.longAt(1, 2));
        foot.year(1);
        // YEAR 1 is the next: 1 left over by 2 is 1.
        Due.due("longAt(1, 1) from year 1", 1001, foot.longAt(1, 1));
        Due.due("longAt(2, 1) from year 1", 1002, foot.longAt(2, 1));
        Due.due("longAt(0, 0) of no realm", Due.NOT, none().longAt(0, 0));
        Due.due("longAt(61, 0) of no realm", Due.OUTSIDE, none().longAt(61, 0));
        Due.due("longAt(0, 2) of no realm", Due.OUTSIDE, none().longAt(0, 2));
    }

    /** "(-99 to 99)", "(1 at least)" of each YEAR that passes */
    private static void longAtIsHeldEachYear() {
        RulerFoot foot = Due.realmOf("r20 9;d9,0;");
        foot.warp(95);
        int[] lengths = {20, 11, 2, 1, 1};
        int[] bends = {95, 99, 95, 99, 95};
        for (int n = 0; n < lengths.length; n++) {
            Due.due("longAt(" + n + ", 0)", lengths[n], foot.longAt(n, 0));
            Due.due("longAt(" + n + ", 1)", bends[n] + 1000, foot.longAt(n, 1));
        }
        foot.warp(-99);
        Due.due("longAt(1, 1) of the least", 906, foot.longAt(1, 1));
        RulerFoot low = Due.realmOf("r20 9;d0;");
        low.warp(-94);
        Due.due("longAt(1, 1) to -98", 902, low.longAt(1, 1));
        Due.due("longAt(2, 1) to -99", 901, low.longAt(2, 1));
        Due.due("longAt(60, 1) to -99", 901, low.longAt(60, 1));
    }

    /** "not LOST" */
    private static void longAtIsAsIfNotLost() {
        RulerFoot foot = Due.realmOf("r24 1;d5;");
        foot.lose(true);
        Due.due("longAt(0, 0)", 24, foot.longAt(0, 0));
        Due.due("longAt(3, 0)", 21, foot.longAt(3, 0));
        Due.due("longAt(3, 1)", 1003, foot.longAt(3, 1));
        Due.due("told(7)", 1, foot.told(7));
    }

    /** "FIRST SHORT (x 1 .. 240); NONE. OUTSIDE, NOT: no REALM." */
    private static void firstShortTakes1To240Hairs() {
        RulerFoot foot = Due.realmOf("r239 9;");
        Due.due("firstShort(0)", Due.OUTSIDE, foot.firstShort(0));
        Due.due("firstShort(1), which never is", Due.NONE, foot.firstShort(1));
        Due.due("firstShort(2)", 27, foot.firstShort(2));
        Due.due("firstShort(230)", 2, foot.firstShort(230));
        Due.due("firstShort(231)", 1, foot.firstShort(231));
        Due.due("firstShort(239)", 1, foot.firstShort(239));
        Due.due("firstShort(240), which it is", 0, foot.firstShort(240));
        Due.due("firstShort(241)", Due.OUTSIDE, foot.firstShort(241));
        Due.due("firstShort(1) of no realm", Due.NOT, none().firstShort(1));
        Due.due("firstShort(241) of no realm", Due.OUTSIDE, none().firstShort(241));
    }

    /** "behind how many YEARS (0 .. 200) so it is shorter than x hairs; NONE" */
    private static void firstShortIsWithin200Years() {
        RulerFoot foot = Due.realmOf("r240 1;");
        Due.due("firstShort(42)", 199, foot.firstShort(42));
        Due.due("firstShort(41)", 200, foot.firstShort(41));
        Due.due("firstShort(40)", Due.NONE, foot.firstShort(40));
        foot.lose(true);
        Due.due("firstShort(41) as if not lost", 200, foot.firstShort(41));
        Due.due("firstShort(240) of a rod without wear", Due.NONE, Due.realmOf("r240 0;").firstShort(240));
    }

    /** "behind which of 0 to n YEARS (0 .. 60) PLANED it would be LONGEST"; "OUTSIDE, NOT: no REALM." */
    private static void planeWhenTakes0To60Years() {
        RulerFoot foot = Due.realmOf("r240 0;d5;");
        foot.warp(-99);
        for (int n : new int[] {0, 1, 59, 60}) {
            Due.due("planeWhen(" + n + ", 0)", n, foot.planeWhen(n, 0));
            Due.due("planeWhen(" + n + ", 1)", 141 + n, foot.planeWhen(n, 1));
        }
        Due.due("planeWhen(-1, 0)", Due.OUTSIDE, foot.planeWhen(-1, 0));
        Due.due("planeWhen(61, 0)", Due.OUTSIDE, foot.planeWhen(61, 0));
        Due.due("planeWhen(0, -1)", Due.OUTSIDE, foot.planeWhen(0, -1));
        Due.due("planeWhen(0, 2)", Due.OUTSIDE, foot.planeWhen(0, 2));
        foot.lose(true);
        Due.due("planeWhen(60, 0) as if not lost", 60, foot.planeWhen(60, 0));
        Due.due("planeWhen(0, 0) of no realm", Due.NOT, none().planeWhen(0, 0));
        Due.due("planeWhen(61, 0) of no realm", Due.OUTSIDE, none().planeWhen(61, 0));
        Due.due("planeWhen(0, 2) of no realm", Due.OUTSIDE, none().planeWhen(0, 2));
    }

    /** "of like ones the first; how long then" */
    private static void planeWhenIsTheFirstOfLike() {
        RulerFoot still = Due.realmOf("r24 0;");
        Due.due("planeWhen(60, 0) of all alike", 0, still.planeWhen(60, 0));
        Due.due("planeWhen(60, 1) of all alike", 24, still.planeWhen(60, 1));
        RulerFoot foot = Due.realmOf("r24 1;d5;");
        foot.warp(-3);
        // 21 each time till it is straight behind 3 YEARS, then less.
        Due.due("planeWhen(60, 0) of four alike", 0, foot.planeWhen(60, 0));
        Due.due("planeWhen(60, 1) of four alike", 21, foot.planeWhen(60, 1));
        RulerFoot later = Due.realmOf("r24 0;d7,4,1;");
        later.warp(-3);
        // -3, 0, 0, -3, 0, ..: the first that is straight.
        Due.due("planeWhen(0, 0)", 0, later.planeWhen(0, 0));
        Due.due("planeWhen(60, 0) of like ones later", 1, later.planeWhen(60, 0));
        Due.due("planeWhen(60, 1) of like ones later", 24, later.planeWhen(60, 1));
    }

    /** "PLANED: LONG is less by what it was WARPED by, either way (1 at least)" */
    private static void planeWhenIs1AtLeast() {
        RulerFoot foot = Due.realmOf("r24 0;d5;");
        foot.warp(-99);
        Due.due("planeWhen(60, 0) of 1 each time", 0, foot.planeWhen(60, 0));
        Due.due("planeWhen(60, 1) of 1 each time", 1, foot.planeWhen(60, 1));
        foot.warp(-83);
        // -23 behind 60 YEARS: one hair is left, as it was.
        Due.due("planeWhen(60, 0) of 1 at the end", 0, foot.planeWhen(60, 0));
        foot.warp(-82);
        Due.due("planeWhen(60, 0) of 2 at the end", 60, foot.planeWhen(60, 0));
        Due.due("planeWhen(60, 1) of 2 at the end", 2, foot.planeWhen(60, 1));
    }

    // ---- had, parts, folded

    /** "HAD (x 0 .. 999); NONE. OUTSIDE, NOT: no REALM."; "within 0 to 999" */
    private static void hadTakes0To999Hairs() {
        RulerFoot foot = Due.realmOf("r240 0;n201;");
        Due.due("had(-1)", Due.OUTSIDE, foot.had(-1));
        Due.due("had(0)", 0, foot.had(0));
        Due.due("had(240)", 1, foot.had(240));
        Due.due("had(39)", 2, foot.had(39));
        // Five times on and once back, by which it never needs to be beyond.
        Due.due("had(999)", 6, foot.had(999));
        Due.due("had(998)", Due.NONE, foot.had(998));
        Due.due("had(1000)", Due.OUTSIDE, foot.had(1000));
        Due.due("had(999) by four times 222, and 111", 5, Due.realmOf("r222 0;n111;").had(999));
        Due.due("had(0) of no realm", Due.NOT, none().had(0));
        Due.due("had(-1) of no realm", Due.OUTSIDE, none().had(-1));
        Due.due("had(1000) of no realm", Due.OUTSIDE, none().had(1000));
    }

    /** "the fewest times (20 at most)"; "NONE" */
    private static void hadIsIn20TimesAtMost() {
        RulerFoot foot = Due.realmOf("r12 0;");
        Due.due("had(12)", 1, foot.had(12));
        Due.due("had(228)", 19, foot.had(228));
        Due.due("had(240)", 20, foot.had(240));
        Due.due("had(252)", Due.NONE, foot.had(252));
        Due.due("had(11)", Due.NONE, foot.had(11));
        // 10 hairs by ten times on and ten times back; 11 hairs need 22.
        RulerFoot back = Due.realmOf("r101 0;n100;");
        Due.due("had(10) on and back", 20, back.had(10));
        Due.due("had(11) on and back", Due.NONE, back.had(11));
    }

    /** "lengths of THE ROD now are its whole (LONG), and X of each NICK below LONG" */
    private static void hadIsByNicksBelowTheWhole() {
        RulerFoot foot = Due.realmOf("r14 1;n13;n12;n14;n15;n239;");
        Due.due("had(13) below the whole", 1, foot.had(13));
        Due.due("had(14) of the whole", 1, foot.had(14));
        Due.due("had(15) above the whole", 3, foot.had(15));
        Due.due("had(239) above the whole", 18, foot.had(239));
        foot.year(1);
        Due.due("had(13) of the whole", 1, foot.had(13));
        Due.due("had(14) no more", 3, foot.had(14));
        foot.year(1);
        Due.due("had(13) by the whole alone", Due.NONE, foot.had(13));
        Due.due("had(24) by the whole alone", 2, foot.had(24));
        foot.lose(true);
        Due.due("had(24) of a lost rod", 2, foot.had(24));
        RulerFoot least = Due.realmOf("r12 9;n1;");
        least.year(2);
        Due.due("had(20) by one hair", 20, least.had(20));
        Due.due("had(21) by one hair", Due.NONE, least.had(21));
    }

    /** By these lengths each place from 0 to 999 is had. */
    private static void hadIsOfEveryPlace() {
        int[] lengths = {240, 1, 3, 9, 27, 81};
        int[] fewest = new int[1000];
        java.util.Arrays.fill(fewest, 999);
        fewest[0] = 0;
        for (int times = 0; times < 20; times++) {
            for (int from = 0; from < 1000; from++) {
                for (int length : lengths) {
                    for (int to : new int[] {from + length, from - length}) {
                        if (to >= 0 && to < 1000) {
                            fewest[to] = Math.min(fewest[to], fewest[from] + 1);
                        }
                    }
                }
            }
        }
        for (int first = 0; first < 1000; first += 250) {
            RulerFoot foot = Due.realmOf("r240 0;n1;n3;n9;n27;n81;");
            for (int x = first; x < first + 250; x++) {
                Due.due("had(" + x + ") by six lengths", fewest[x], foot.had(x));
            }
        }
    }

    private static void partsAre(RulerFoot foot, int... want) {
        Due.due("parts(NONE)", want.length, foot.parts(Due.NONE));
        for (int i = 0; i < want.length; i++) {
            Due.due("parts(" + i + ")", want[i], foot.parts(i));
        }
        for (int i : new int[] {want.length, Integer.MAX_VALUE, -2, Integer.MIN_VALUE}) {
            Due.due("parts(" + i + ")", Due.NONE, foot.parts(i));
        }
    }

    /** "of 1 to LONG hairs"; "i = NONE how many, else the i-th; NONE. NOT: no REALM." */
    private static void partsAreFrom1ToTheWhole() {
        // 0 is had by no time, and 25 and on by two; they are no parts.
        partsAre(Due.realmOf("r24 0;n23;"), 1, 23, 24);
        partsAre(Due.realmOf("r24 0;"), 24);
        partsAre(Due.realmOf("r24 0;n24;n25;"), 24);
        partsAre(Due.realmOf("r24 0;n12;"), 12, 24);
        partsAre(Due.realmOf("r24 0;n1;"), 1, 2, 23, 24);
        RulerFoot worn = Due.realmOf("r12 9;n1;");
        worn.year(2);
        partsAre(worn, 1);
        Due.due("parts(NONE) of no realm", Due.NOT, none().parts(Due.NONE));
        Due.due("parts(0) of no realm", Due.NOT, none().parts(0));
        Due.due("parts(-2) of no realm", Due.NOT, none().parts(-2));
    }

    /** "those that are HAD in 2 times or fewer" */
    private static void partsAreHadInTwoTimes() {
        // 9 would be had in three times, 6 and 14 in two, 3 and 20 in one.
        partsAre(Due.realmOf("r20 0;n3;"), 3, 6, 17, 20);
        partsAre(Due.realmOf("r240 0;n1;n2;n4;n8;n16;"), 1, 2, 3, 4, 5, 6, 7, 8, 9, 10, 12, 14, 15, 16, 17, 18, 20, 24,
                32, 224, 232, 236, 238, 239, 240);
    }

    /** "FOLD: half of x hairs (0 .. 999); NONE: it is not whole" */
    private static void foldTakes0To999Hairs() {
        RulerFoot foot = new RulerFoot();
        Due.due("fold(-1)", Due.OUTSIDE, foot.fold(-1));
        Due.due("fold(-2)", Due.OUTSIDE, foot.fold(-2));
        Due.due("fold(0)", 0, foot.fold(0));
        Due.due("fold(1)", Due.NONE, foot.fold(1));
        Due.due("fold(2)", 1, foot.fold(2));
        Due.due("fold(998)", 499, foot.fold(998));
        Due.due("fold(999)", Due.NONE, foot.fold(999));
        Due.due("fold(1000)", Due.OUTSIDE, foot.fold(1000));
    }

    // ---- who fits

    private static void postsAre(RulerFoot foot, int count, int... want) {
        Due.due("posts(NONE)", count, foot.posts(Due.NONE));
        for (int o = 0; o < want.length; o++) {
            Due.due("posts(" + o + ")", want[o], foot.posts(o));
        }
        for (int o : new int[] {want.length, Integer.MAX_VALUE, -2, Integer.MIN_VALUE}) {
            Due.due("posts(" + o + ")", Due.UNKNOWN, foot.posts(o));
        }
    }

    /** "o = NONE how many, else the PERSON of an OFFICE; NONE. UNKNOWN." */
    private static void postsOfNobodyAndOfSix() {
        postsAre(none(), 0);
        postsAre(Due.realmOf("r24 0;"), 0);
        postsAre(Due.realmOf("r24 0;p24;p24;"), 0);
        postsAre(Due.realmOf("r24 0;o1 99;o1 99;"), 0, Due.NONE, Due.NONE);
        String offices = "o1 99;".repeat(6);
        postsAre(Due.realmOf("r24 0;" + offices + "p24;".repeat(6)), 6, 0, 1, 2, 3, 4, 5);
        postsAre(Due.realmOf("r24 0;" + offices + "p24;"), 1, 0, -1, -1, -1, -1, -1);
        postsAre(Due.realmOf("r24 0;" + offices + "p1;".repeat(5) + "p24;"), 1, 5, -1, -1, -1, -1, -1);
        postsAre(Due.realmOf("r24 0;o10 10;" + "p24;".repeat(6)), 1, 0);
        // An earlier realm leaves nothing behind, whether it was asked or not.
        RulerFoot later = Due.realmOf("r24 0;" + offices + "p24;".repeat(6));
        postsAre(later, 6, 0, 1, 2, 3, 4, 5);
        Due.due("realm()", 24, Due.tell(later, "r24 0;o20 20;o10 10;p24;p24;"));
        postsAre(later, 1, -1, 0);
        Due.due("realm() of nothing", 0, later.realm());
        postsAre(later, 0);
    }

    /** "each OFFICE gets a PERSON, unlike ones, who fits, or none: the most OFFICES" */
    private static void postsAreTheMost() {
        // The measures are 10, 11 and 12. Who is first would leave the narrow OFFICES empty.
        postsAre(Due.realmOf("r100 0;o10 12;o10 11;o10 10;p100;p110;p120;"), 3, 2, 1, 0);
        postsAre(Due.realmOf("r100 0;o10 11;o10 10;o11 11;p100;p110;"), 2, 0, -1, 1);
        // At its bounds: A to B, and neither below nor above.
        postsAre(Due.realmOf("r100 0;o11 11;o13 99;o1 9;p100;p110;p120;"), 1, 1, -1, -1);
        RulerFoot six = Due.realmOf("r100 0;o10 15;o10 14;o10 13;o10 12;o10 11;o10 10;"
                + "p100;p110;p120;p130;p140;p150;");
        postsAre(six, 6, 5, 4, 3, 2, 1, 0);
        six.shorten(5, 1);
        postsAre(six, 6, 4, 5, 3, 2, 1, 0);
        six.shorten(5, 100);
        postsAre(six, 5, 0, 4, 3, 2, 1, -1);
        six.lose(true);
        postsAre(six, 5, 0, 4, 3, 2, 1, -1);
    }

    /** "of like ones the first (OFFICE by OFFICE the lesser PERSON, none last)" */
    private static void postsAreTheFirstOfLike() {
        postsAre(Due.realmOf("r100 0;o10 12;o10 12;p100;p110;p120;"), 2, 0, 1);
        postsAre(Due.realmOf("r100 0;o11 12;o10 12;p100;p110;p120;"), 2, 1, 0);
        postsAre(Due.realmOf("r100 0;o10 10;o10 10;o10 10;p110;p100;"), 1, 1, -1, -1);
        // An OFFICE rather gets somebody than a later one.
        postsAre(Due.realmOf("r100 0;o10 11;o10 10;o11 11;p110;p100;"), 2, 0, 1, -1);
        postsAre(Due.realmOf("r100 0;o99 99;o10 10;p100;"), 1, -1, 0);
    }

    /** "by how many hairs a PERSON must be SHORTENED at least to fit an OFFICE" */
    private static void shorteningIsTheLeast() {
        // 299 hairs are the most of measure 29, 100 the least of 10.
        RulerFoot foot = Due.realmOf("r100 0;o10 29;p300;p299;p100;p99;p999;p1;");
        int[] want = {1, 0, 0, Due.NONE, 700, Due.NONE};
        for (int p = 0; p < want.length; p++) {
            Due.due("toShorten(" + p + ", 0)", want[p], foot.toShorten(p, 0));
        }
        Due.due("toShorten(6, 0)", Due.UNKNOWN, foot.toShorten(6, 0));
        Due.due("toShorten(-1, 0)", Due.UNKNOWN, foot.toShorten(-1, 0));
        Due.due("toShorten(0, 1)", Due.UNKNOWN, foot.toShorten(0, 1));
        Due.due("toShorten(0, -1)", Due.UNKNOWN, foot.toShorten(0, -1));
        Due.due("toShorten(0, 0) of no realm", Due.UNKNOWN, none().toShorten(0, 0));
        foot.lose(true);
        Due.due("toShorten(0, 0) by a lost rod", 1, foot.toShorten(0, 0));
        Due.due("shorten(0, 1)", 299, foot.shorten(0, 1));
        Due.due("toShorten(0, 0) shortened", 0, foot.toShorten(0, 0));
    }

    /** "NONE: he cannot by it"; "(1 at least)" */
    private static void nobodyIsShortenedBelow1() {
        RulerFoot foot = Due.realmOf("r12 9;o10 10;o1 9;o11 19;p999;p1;p2;");
        foot.year(2);
        // By one hair the measures are 10, 20, 30, ..
        Due.due("toShorten(0, 0) to one hair", 998, foot.toShorten(0, 0));
        Due.due("toShorten(1, 0) of one hair", 0, foot.toShorten(1, 0));
        Due.due("toShorten(2, 0) of two hairs", 1, foot.toShorten(2, 0));
        Due.due("toShorten(0, 1) below one hair", Due.NONE, foot.toShorten(0, 1));
        Due.due("toShorten(1, 1) below one hair", Due.NONE, foot.toShorten(1, 1));
        Due.due("toShorten(0, 2) between two hairs", Due.NONE, foot.toShorten(0, 2));
        Due.due("toShorten(2, 2) between two hairs", Due.NONE, foot.toShorten(2, 2));
    }

    // ---- what was made

    /** "a YEAR (0 .. 9999)"; "l 1 .. 240: LONG then"; "what = 0 how many, 1 the least, and 1000; NONE. OUTSIDE." */
    private static void wasWarpedTakesItsNumbers() {
        RulerFoot foot = none();
        Due.due("wasWarped(-1, 24, 0)", Due.OUTSIDE, foot.wasWarped(-1, 24, 0));
        Due.due("wasWarped(0, 24, 0)", 199, foot.wasWarped(0, 24, 0));
        Due.due("wasWarped(9999, 24, 0)", 199, foot.wasWarped(9999, 24, 0));
        Due.due("wasWarped(10000, 24, 0)", Due.OUTSIDE, foot.wasWarped(10000, 24, 0));
        Due.due("wasWarped(0, 0, 0)", Due.OUTSIDE, foot.wasWarped(0, 0, 0));
        Due.due("wasWarped(0, 1, 0)", 199, foot.wasWarped(0, 1, 0));
        Due.due("wasWarped(0, 240, 0)", 199, foot.wasWarped(0, 240, 0));
        Due.due("wasWarped(0, 241, 0)", Due.OUTSIDE, foot.wasWarped(0, 241, 0));
        Due.due("wasWarped(0, 1, -1)", Due.OUTSIDE, foot.wasWarped(0, 1, -1));
        Due.due("wasWarped(0, 1, 1)", 901, foot.wasWarped(0, 1, 1));
        Due.due("wasWarped(0, 1, 2)", Due.OUTSIDE, foot.wasWarped(0, 1, 2));
    }

    private static void wasWarpedAre(RulerFoot foot, int year, int length, int count, int least) {
        Due.due("wasWarped(" + year + ", " + length + ", 0)", count, foot.wasWarped(year, length, 0));
        Due.due("wasWarped(" + year + ", " + length + ", 1)", least, foot.wasWarped(year, length, 1));
    }

    /** "numbers v (-99 to 99) by which, so WARPED, all of these are so" */
    private static void wasWarpedIs99EitherWay() {
        RulerFoot foot = Due.realmOf("r120 0;");
        foot.make(1, 0);
        wasWarpedAre(foot, 0, 20, 0, Due.NONE);
        wasWarpedAre(foot, 0, 21, 1, 1099);
        wasWarpedAre(foot, 0, 120, 1, 1000);
        wasWarpedAre(foot, 0, 219, 1, 901);
        wasWarpedAre(foot, 0, 220, 0, Due.NONE);
        foot.make(0, 1);
        // 10 hairs, by 119 and by 118 cut to 9.
        wasWarpedAre(foot, 0, 120, 1, 1000);
        wasWarpedAre(foot, 0, 119, 1, 1001);
        wasWarpedAre(foot, 0, 118, 0, Due.NONE);
    }

    /** "when THINGS that are kept were MADE in a YEAR" */
    private static void wasWarpedIsByThingsThatAreKept() {
        RulerFoot foot = Due.realmOf("r24 0;");
        foot.warp(5);
        foot.make(1, 0);
        foot.warp(7);
        foot.make(1, 0);
        wasWarpedAre(foot, 0, 24, 0, Due.NONE);
        foot.year(1);
        for (int i = 0; i < 18; i++) {
            foot.make(2, 0);
        }
        wasWarpedAre(foot, 0, 24, 0, Due.NONE);
        wasWarpedAre(foot, 1, 24, 1, 1007);
        foot.make(2, 0);
        wasWarpedAre(foot, 0, 24, 1, 1007);
        foot.make(2, 0);
        wasWarpedAre(foot, 0, 24, 199, 901);
        wasWarpedAre(foot, 2, 24, 199, 901);
    }

    /** "ALIKE: pairs of THINGS (100 times the earlier and the later, 0 the earliest kept; rising)"; "NONE" */
    private static void alikeOfNoneAndOfTwenty() {
        RulerFoot foot = Due.realmOf("r24 0;");
        alikeAre(foot, 0, 0);
        foot.make(1, 0);
        alikeAre(foot, 0, 0);
        foot.make(1, 0);
        alikeAre(foot, 1, 1);
        for (int i = 2; i < 20; i++) {
            foot.make(1, 0);
        }
        alikeAre(foot, 190, 1819);
        Due.due("alike(0) of twenty", 1, foot.alike(0));
        Due.due("alike(18) of twenty", 19, foot.alike(18));
        Due.due("alike(19) of twenty", 102, foot.alike(19));
        foot.make(1, 1);
        // The latest is unlike; of one length by another making it is alike.
        alikeAre(foot, 171, 1718);
        foot.warp(-24);
        foot.make(2, 0);
        alikeAre(foot, 171, 1719);
    }

    private static void alikeAre(RulerFoot foot, int count, int last) {
        Due.due("alike(NONE)", count, foot.alike(Due.NONE));
        if (count > 0) {
            Due.due("alike(" + (count - 1) + ")", last, foot.alike(count - 1));
        }
        for (int i : new int[] {count, Integer.MAX_VALUE, -2, Integer.MIN_VALUE}) {
            Due.due("alike(" + i + ")", Due.NONE, foot.alike(i));
        }
    }

    // ---- hands

    private static RulerFoot holding(int... widths) {
        RulerFoot foot = Due.realmOf("r20 0;");
        for (int width : widths) {
            foot.hold(width - 20);
        }
        return foot;
    }

    private static void handsAre(int what, int want, int... widths) {
        Due.due("hands(" + what + ") of " + java.util.Arrays.toString(widths), want, holding(widths).hands(what));
    }

    /** "NONE: none is held"; "OUTSIDE." */
    private static void handsOfNoneAreNone() {
        for (RulerFoot foot : new RulerFoot[] {none(), holding(), holding(20)}) {
            Due.due("hands(-1)", Due.OUTSIDE, foot.hands(-1));
            Due.due("hands(4)", Due.OUTSIDE, foot.hands(4));
        }
        RulerFoot dropped = holding(7, 8);
        dropped.drop();
        for (int what = 0; what < 4; what++) {
            Due.due("hands(" + what + ") of no realm", Due.NONE, none().hands(what));
            Due.due("hands(" + what + ") of none", Due.NONE, holding().hands(what));
            Due.due("hands(" + what + ") dropped", Due.NONE, dropped.hands(what));
        }
        handsAre(0, 0, 0);
        handsAre(1, 0, 0);
        handsAre(2, 0, 0);
        handsAre(3, 0, 0);
    }

    /** "the mean width (cut)" */
    private static void theMeanIsCut() {
        handsAre(0, 20, 20, 20);
        handsAre(0, 20, 20, 21);
        handsAre(0, 20, 20, 21, 21);
        handsAre(0, 21, 21, 21, 21);
        handsAre(0, 4, 0, 0, 0, 0, 0, 0, 0, 39);
        handsAre(0, 5, 0, 0, 0, 0, 0, 0, 0, 40);
    }

    /** "the middle one (of an even number the lesser one)" */
    private static void theMiddleOfAnEvenNumberIsTheLesser() {
        handsAre(1, 20, 20);
        handsAre(1, 20, 30, 20);
        handsAre(1, 20, 20, 30);
        handsAre(1, 30, 40, 20, 30);
        handsAre(1, 20, 40, 20, 30, 10);
        handsAre(1, 4, 8, 7, 6, 5, 4, 3, 2, 1);
        handsAre(1, 4, 7, 6, 5, 4, 3, 2, 1);
        handsAre(1, 9, 9, 1, 9, 9);
        handsAre(1, 1, 1, 9, 1, 9);
    }

    /** "the HAND that is farthest from the mean; of like ones the least" */
    private static void theFarthestIsTheLeastOfLike() {
        handsAre(2, 0, 20, 20, 20);
        handsAre(2, 0, 10, 30);
        handsAre(2, 0, 30, 10);
        handsAre(2, 1, 20, 10, 30);
        handsAre(2, 7, 20, 20, 20, 20, 20, 20, 20, 40);
        handsAre(2, 7, 20, 20, 20, 20, 20, 20, 20, 0);
        // From the mean, 28, and not from LONG, 20.
        handsAre(2, 0, 21, 30, 31, 32);
        // From the mean as hands(0) tells it, cut to 10: from ten and a half both would be as far.
        handsAre(2, 1, 10, 11);
        handsAre(2, 2, 10, 10, 11);
        handsAre(2, 1, 10, 13, 10, 13);
    }

    /** "the HAND nearest to LONG; of like ones the least" */
    private static void theNearestIsTheLeastOfLike() {
        handsAre(3, 0, 20, 20);
        handsAre(3, 0, 19, 21);
        handsAre(3, 0, 21, 19);
        handsAre(3, 1, 22, 19, 21);
        handsAre(3, 7, 0, 0, 0, 0, 0, 0, 0, 39);
        RulerFoot worn = Due.realmOf("r20 9;");
        worn.hold(0);
        worn.hold(-18);
        Due.due("hands(3) by LONG as it was", 0, worn.hands(3));
        worn.year(1);
        Due.due("hands(3) by 11, of like ones", 0, worn.hands(3));
        worn.year(1);
        Due.due("hands(3) by LONG now", 1, worn.hands(3));
        worn.lose(true);
        Due.due("hands(3) by a lost rod", 1, worn.hands(3));
    }

    // ---- tens, roads, odds

    /** "TENS (n 0 .. 999, m 0 .. 11): what = 0 tens, 1 what is left over. OUTSIDE." */
    private static void tensTakeTheirNumbers() {
        RulerFoot foot = none();
        int[][] cases = {{0, 0, 0, 0}, {0, 1, 0, 10}, {0, 2, 1, 8}, {0, 6, 5, 0}, {0, 11, 9, 2}, {1, 0, 10, 0},
            {999, 0, 9990, 0}, {999, 11, 9999, 2}};
        for (int[] one : cases) {
            Due.due("tens(" + one[0] + ", " + one[1] + ", 0)", one[2], foot.tens(one[0], one[1], 0));
            Due.due("tens(" + one[0] + ", " + one[1] + ", 1)", one[3], foot.tens(one[0], one[1], 1));
        }
        int[][] refused = {{-1, 0, 0}, {1000, 0, 0}, {0, -1, 0}, {0, 12, 0}, {0, 0, -1}, {0, 0, 2}};
        for (int[] one : refused) {
            Due.due("tens(" + one[0] + ", " + one[1] + ", " + one[2] + ")", Due.OUTSIDE,
                    foot.tens(one[0], one[1], one[2]));
        }
    }

    /** "d hairs apart (0 .. 999) and come nearer by a and b hairs a mile (0 .. 99 each)"; "whole miles at least" */
    private static void leanTakesItsNumbers() {
        RulerFoot foot = none();
        int[][] cases = {{0, 99, 99, 0}, {1, 1, 0, 1}, {1, 0, 1, 1}, {2, 1, 1, 1}, {3, 1, 1, 2}, {4, 1, 1, 2},
            {198, 99, 99, 1}, {199, 99, 99, 2}, {999, 99, 99, 6}, {999, 1, 0, 999}, {999, 0, 1, 999}, {999, 99, 0, 11},
            {990, 0, 99, 10}, {991, 0, 99, 11}};
        for (int[] one : cases) {
            Due.due("lean(" + one[0] + ", " + one[1] + ", " + one[2] + ")", one[3],
                    foot.lean(one[0], one[1], one[2]));
        }
        int[][] refused = {{-1, 1, 1}, {1000, 1, 1}, {1, -1, 1}, {1, 100, 1}, {1, 1, -1}, {1, 1, 100}, {0, -1, 1},
            {0, 0, 100}};
        for (int[] one : refused) {
            Due.due("lean(" + one[0] + ", " + one[1] + ", " + one[2] + ")", Due.OUTSIDE,
                    foot.lean(one[0], one[1], one[2]));
        }
    }

    /** "NONE: they never do" */
    private static void roadsThatNeverMeet() {
        Due.due("lean(1, 0, 0)", Due.NONE, none().lean(1, 0, 0));
        Due.due("lean(999, 0, 0)", Due.NONE, none().lean(999, 0, 0));
        Due.due("lean(0, 0, 0), which have met", 0, none().lean(0, 0, 0));
    }

    /** "in n YEARS (0 .. 60), each by q of a hundred (0 .. 100)"; "OUTSIDE." */
    private static void foundByTakesItsNumbers() {
        RulerFoot foot = none();
        Due.due("foundBy(-1, 50)", Due.OUTSIDE, foot.foundBy(-1, 50));
        Due.due("foundBy(61, 50)", Due.OUTSIDE, foot.foundBy(61, 50));
        Due.due("foundBy(1, -1)", Due.OUTSIDE, foot.foundBy(1, -1));
        Due.due("foundBy(1, 101)", Due.OUTSIDE, foot.foundBy(1, 101));
        Due.due("foundBy(0, 0)", 1000000000, foot.foundBy(0, 0));
        Due.due("foundBy(0, 100)", 1000000000, foot.foundBy(0, 100));
        Due.due("foundBy(1, 0)", 1000000000, foot.foundBy(1, 0));
        Due.due("foundBy(60, 0)", 1000000000, foot.foundBy(60, 0));
        Due.due("foundBy(1, 1)", 990000000, foot.foundBy(1, 1));
        Due.due("foundBy(1, 99)", 10000000, foot.foundBy(1, 99));
        Due.due("foundBy(1, 100)", 0, foot.foundBy(1, 100));
        Due.due("foundBy(60, 100)", 0, foot.foundBy(60, 100));
    }

    /** "a BILLION times (100 less q) / 100 each (cut)" */
    private static void foundByIsCutEachYear() {
        RulerFoot foot = none();
        Due.due("foundBy(29, 50)", 1, foot.foundBy(29, 50));
        Due.due("foundBy(30, 50)", 0, foot.foundBy(30, 50));
        IntUnaryOperator odds = q -> {
            long left = 1000000000L;
            for (int i = 0; i < 60; i++) {
                left = left * (100 - q) / 100;
            }
            return (int) left;
        };
        for (int q = 0; q <= 100; q++) {
            Due.due("foundBy(60, " + q + ")", odds.applyAsInt(q), foot.foundBy(60, q));
        }
    }

    // ---- nothing changes

    private static void some(RulerFoot foot) {
        String text = "r24 1;n7;n9;o10 30;o20 40;p60;p41;p9;d5,0,9;";
        for (int i = 0; i < text.length(); i++) {
            foot.feed(text.charAt(i));
        }
        foot.realm();
        foot.seed(99);
        foot.keep(0);
        foot.warp(6);
        foot.year(2);
        foot.make(1, 5);
        foot.make(1, 5);
        foot.hold(3);
        foot.hold(-4);
        foot.shorten(1, 4);
        foot.see(2, 48);
        foot.write(1, 41);
        foot.feed('r');
        foot.feed('9');
    }

    private static void someLost(RulerFoot foot) {
        some(foot);
        foot.lose(true);
    }

    /** "TRIED from now; nothing changes by it." So of what only asks, too. */
    private static void nothingChanges() {
        idle("told()", foot -> foot.told(10));
        idle("fault()", RulerFoot::fault);
        idle("warped()", RulerFoot::warped);
        idle("nick()", foot -> foot.nick(1));
        idle("office()", foot -> foot.office(1, 2));
        idle("person()", foot -> foot.person(2, 1));
        idle("thing()", foot -> foot.thing(1, 3));
        idle("hand()", foot -> foot.hand(1));
        idle("longAt()", foot -> foot.longAt(60, 1));
        idle("firstShort()", foot -> foot.firstShort(1));
        idle("planeWhen()", foot -> foot.planeWhen(60, 0));
        idle("had()", foot -> foot.had(999));
        idle("parts()", foot -> foot.parts(Due.NONE));
        idle("fold()", foot -> foot.fold(8));
        idle("posts()", foot -> foot.posts(1));
        idle("toShorten()", foot -> foot.toShorten(0, 1));
        idle("wasWarped()", foot -> foot.wasWarped(2, 240, 0));
        idle("alike()", foot -> foot.alike(0));
        for (int what = 0; what < 4; what++) {
            int asked = what;
            idle("hands(" + what + ")", foot -> foot.hands(asked));
        }
        idle("tens()", foot -> foot.tens(1, 2, 0));
        idle("lean()", foot -> foot.lean(9, 1, 2));
        idle("foundBy()", foot -> foot.foundBy(60, 7));
        idle("rods()", foot -> foot.rods(2));
        idle("door()", RulerFoot::door);
        idle("judge()", RulerFoot::judge);
    }

    private static void idle(String call, Consumer<RulerFoot> act) {
        Shown.unchanged(call, TriedBoundsTest::some, act);
        Shown.unchanged(call + " by a lost rod", TriedBoundsTest::someLost, act);
    }
}
