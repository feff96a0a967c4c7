import java.util.function.Consumer;

/** Section 2 and promises 5 to 21 at their bounds: each sentence of the document has a test of its own. */
public final class RodBoundsTest {
    public static void main(String[] args) {
        toldAnswers0To13();
        warpedIsLiftedBy1000();
        officesFitASetOfPersons();
        measuresAreCut();
        thingsHaveNumbersFrom0();
        handsHaveNumbersFrom0();
        yearsAre1To60ACall();
        yearsAreFullAbove9000();
        aYearWearsTo1AtLeast();
        aYearBendsTo99AtMost();
        aLostRodLiesStill();
        makeTakes0To20FeetAnd0To11Twelfths();
        makingCutsAheadOfTheWarp();
        thingsAre20AtMost();
        longestIsTheEarliestOfLike();
        warpTakes99EitherWay();
        planingEitherWayTo1AtLeast();
        loseTellsWhatWas();
        holdTakes20EitherWay();
        handsAre0HairsAtLeast();
        handsAre8AtMost();
        dropIsNeverRefused();
        shortenTakes1To999();
        personsAre1AtLeast();
        driftTakes1To60Years();
        driftIsFullAbove9000();
        driftLosesAndFinds();
        driftWarpsBy10EitherWay();
        driftMakes0To9Feet();
        driftDrawsForALostRodToo();
        driftDrawsOnceElse();
        driftKeeps20Things();
        theSeedIsLeftOverBy2ToThe31();
        undoneIsAllOfSection2();
        undoneAre16AtMost();
        undoneAreTheUnrefusedAlone();
        Due.end();
    }

    // ---- what is told

    /** "told: 0 L .. 13 how many can be undone. OUTSIDE." */
    private static void toldAnswers0To13() {
        RulerFoot foot = Due.realmOf("r24 1;n5;n6;o1 2;o1 2;o1 2;p9;p9;p9;p9;");
        foot.year(6);
        foot.make(1, 0);
        foot.make(2, 0);
        foot.hold(0);
        foot.hold(0);
        foot.hold(0);
        foot.see(1, 1);
        foot.see(1, 1);
        foot.write(0, 9);
        foot.lose(true);
        for (int i = 1; i <= 5; i++) {
            foot.feed(' ');
        }
        int[] want = {24, 2, 3, 4, 5, 6, 18, 1, 2, 3, 1, 2, 1, 7};
        for (int what = 0; what < want.length; what++) {
            Due.due("told(" + what + ")", want[what], foot.told(what));
        }
        Due.due("told(-1)", Due.OUTSIDE, foot.told(-1));
        Due.due("told(14)", Due.OUTSIDE, foot.told(14));
    }

    /** "WARPED, and 1000; NOT: no REALM."; "WARPED by 0 at first (-99 to 99)" */
    private static void warpedIsLiftedBy1000() {
        RulerFoot foot = new RulerFoot();
        Due.due("warped() of no realm", Due.NOT, foot.warped());
        Due.due("realm()", 24, Due.tell(foot, "r24 1;"));
        Due.due("warped() at first", 1000, foot.warped());
        foot.warp(-99);
        Due.due("warped() the least", 901, foot.warped());
        foot.warp(99);
        Due.due("warped() the most", 1099, foot.warped());
        foot.warp(-1);
        Due.due("warped() just below", 999, foot.warped());
        Due.due("realm() of nothing", 0, foot.realm());
        Due.due("warped() of no realm again", Due.NOT, foot.warped());
    }

    /** "A SET is a whole number, bit k for k"; "PERSONS whose MEASURE is A to B of an OFFICE" */
    private static void officesFitASetOfPersons() {
        // By 100 hairs the measures are 9, 10, 11, 19, 20, 21.
        RulerFoot foot = Due.realmOf("r100 0;o10 20;o21 99;o1 9;o1 99;o22 99;p99;p100;p110;p199;p200;p210;");
        Due.due("office(0, 2) from A to B", 2 + 4 + 8 + 16, foot.office(0, 2));
        Due.due("office(1, 2) of the last", 32, foot.office(1, 2));
        Due.due("office(2, 2) of the first", 1, foot.office(2, 2));
        Due.due("office(3, 2) of all", 63, foot.office(3, 2));
        Due.due("office(4, 2) of none", 0, foot.office(4, 2));
        Due.due("office(0, -1)", Due.OUTSIDE, foot.office(0, -1));
        Due.due("office(0, 3)", Due.OUTSIDE, foot.office(0, 3));
        Due.due("office(4, 0)", 22, foot.office(4, 0));
        Due.due("office(5, 0)", Due.UNKNOWN, foot.office(5, 0));
        Due.due("office(-1, 0)", Due.UNKNOWN, foot.office(-1, 0));
        Due.due("office(5, 3)", Due.UNKNOWN, foot.office(5, 3));
        Due.due("office(0, 2) without persons", 0, Due.realmOf("r24 0;o1 99;").office(0, 2));
    }

    /** "MEASURED FOR OFFICE: how many tenths of THE ROD a PERSON is tall: 10 times H / LONG" */
    private static void measuresAreCut() {
        RulerFoot foot = Due.realmOf("r240 9;p23;p24;p47;p48;p999;p1;");
        int[] want = {0, 1, 1, 2, 41, 0};
        for (int p = 0; p < want.length; p++) {
            Due.due("person(" + p + ", 1)", want[p], foot.person(p, 1));
        }
        Due.due("person(0, -1)", Due.OUTSIDE, foot.person(0, -1));
        Due.due("person(0, 2)", Due.OUTSIDE, foot.person(0, 2));
        Due.due("person(6, 2)", Due.UNKNOWN, foot.person(6, 2));
        foot.year(60);
        Due.due("person(4, 1) by one hair", 9990, foot.person(4, 1));
        Due.due("person(5, 1) by one hair", 10, foot.person(5, 1));
    }

    /** "Of a THING (0 the earliest kept): what = 0 hairs, and 1000, 1 n, 2 m, 3 the YEAR. UNKNOWN, OUTSIDE." */
    private static void thingsHaveNumbersFrom0() {
        RulerFoot foot = Due.realmOf("r24 0;");
        Due.due("thing(0, 0) of none", Due.UNKNOWN, foot.thing(0, 0));
        foot.make(0, 11);
        foot.year(3);
        foot.make(20, 0);
        int[][] want = {{1022, 0, 11, 0}, {1480, 20, 0, 3}};
        for (int i = 0; i < 2; i++) {
            for (int what = 0; what < 4; what++) {
                Due.due("thing(" + i + ", " + what + ")", want[i][what], foot.thing(i, what));
            }
        }
        Due.due("thing(1, -1)", Due.OUTSIDE, foot.thing(1, -1));
        Due.due("thing(1, 4)", Due.OUTSIDE, foot.thing(1, 4));
        Due.due("thing(2, 0)", Due.UNKNOWN, foot.thing(2, 0));
        Due.due("thing(2, 4)", Due.UNKNOWN, foot.thing(2, 4));
        Due.due("thing(-1, 0)", Due.UNKNOWN, foot.thing(-1, 0));
        foot.undo();
        Due.due("thing(1, 0) undone", Due.UNKNOWN, foot.thing(1, 0));
    }

    /** "The width of a HAND. UNKNOWN." */
    private static void handsHaveNumbersFrom0() {
        RulerFoot foot = Due.realmOf("r24 0;");
        Due.due("hand(0) of none", Due.UNKNOWN, foot.hand(0));
        foot.hold(1);
        foot.hold(2);
        Due.due("hand(-1)", Due.UNKNOWN, foot.hand(-1));
        Due.due("hand(0)", 25, foot.hand(0));
        Due.due("hand(1)", 26, foot.hand(1));
        Due.due("hand(2)", Due.UNKNOWN, foot.hand(2));
        foot.drop();
        Due.due("hand(0) dropped", Due.UNKNOWN, foot.hand(0));
    }

    // ---- years

    /** "n YEARS (1 .. 60): YEARS. OUTSIDE, NOT: no REALM"; "YEARS are counted from 0." */
    private static void yearsAre1To60ACall() {
        RulerFoot foot = Due.realmOf("r240 1;");
        Due.due("told(5) at first", 0, foot.told(5));
        Due.due("year(0)", Due.OUTSIDE, foot.year(0));
        Due.due("year(61)", Due.OUTSIDE, foot.year(61));
        Due.due("told(5) behind refusals", 0, foot.told(5));
        Due.due("year(1)", 1, foot.year(1));
        Due.due("told(6) behind one", 239, foot.told(6));
        Due.due("year(60)", 61, foot.year(60));
        Due.due("told(6) behind 61", 179, foot.told(6));
        Due.due("told(5)", 61, foot.told(5));
        Due.due("year(1) of no realm", Due.NOT, new RulerFoot().year(1));
        Due.due("year(0) of no realm", Due.OUTSIDE, new RulerFoot().year(0));
    }

    private static RulerFoot at9000(String text) {
        RulerFoot foot = Due.realmOf(text);
        for (int i = 0; i < 149; i++) {
            foot.year(60);
        }
        foot.year(59);
        Due.due("year(1) to 9000", 9000, foot.year(1));
        return foot;
    }

    /** "FULL: YEARS are above 9000." */
    private static void yearsAreFullAbove9000() {
        RulerFoot foot = at9000("r24 0;d5,4,4,4,4,4,4;");
        foot.warp(0);
        Due.due("year(1) of 9000", 9001, foot.year(1));
        // 9000 left over by 7 is 5: the sway of 4.
        Due.due("warped()", 1000, foot.warped());
        Due.due("year(1) of 9001", Due.FULL, foot.year(1));
        Due.due("year(60) of 9001", Due.FULL, foot.year(60));
        Due.due("year(61) of 9001", Due.OUTSIDE, foot.year(61));
        Due.due("told(5) of 9001", 9001, foot.told(5));
        // 9002 left over by 7 is 0: the tried go beyond.
        Due.due("longAt(1, 1) of 9001", 1000, foot.longAt(1, 1));
        Due.due("longAt(2, 1) of 9001", 1001, foot.longAt(2, 1));
        Due.due("lose(true) of 9001", 0, foot.lose(true));
        Due.due("year(1) of 9001, lost", Due.FULL, foot.year(1));
        foot.undo();
        foot.undo();
        Due.due("told(5) undone", 9000, foot.told(5));
        Due.due("year(60) of 9000", 9060, foot.year(60));
        Due.due("year(1) of 9060", Due.FULL, foot.year(1));
        Due.due("make(1, 0) of 9060", 1024 + foot.warped() - 1000, foot.make(1, 0));
        Due.due("thing(0, 3) of 9060", 9060, foot.thing(0, 3));
        Due.due("wasWarped(9060, 24, 0)", 1, foot.wasWarped(9060, 24, 0));
    }

    /** "LONG is W less (1 at least)" */
    private static void aYearWearsTo1AtLeast() {
        RulerFoot foot = Due.realmOf("r20 9;");
        int[] want = {11, 2, 1, 1};
        for (int i = 0; i < want.length; i++) {
            foot.year(1);
            Due.due("told(6) behind " + (i + 1), want[i], foot.told(6));
        }
        RulerFoot exact = Due.realmOf("r19 9;");
        exact.year(2);
        Due.due("told(6) worn to one", 1, exact.told(6));
        exact.year(1);
        Due.due("told(6) worn no more", 1, exact.told(6));
        RulerFoot many = Due.realmOf("r240 9;");
        many.year(60);
        Due.due("told(6) behind many", 1, many.told(6));
        Due.due("told(0) stays", 240, many.told(0));
        RulerFoot none = Due.realmOf("r240 0;");
        none.year(60);
        Due.due("told(6) without wear", 240, none.told(6));
    }

    /** "WARPED is more by the SWAY of that YEAR, less 4 (-99 to 99)" */
    private static void aYearBendsTo99AtMost() {
        int[][] cases = {{93, 98}, {94, 99}, {95, 99}, {99, 99}, {-99, -94}};
        for (int[] one : cases) {
            RulerFoot foot = Due.realmOf("r24 0;d9;");
            foot.warp(one[0]);
            foot.year(1);
            Due.due("warped() of " + one[0] + " and 5", one[1] + 1000, foot.warped());
        }
        int[][] others = {{-94, -98}, {-95, -99}, {-96, -99}, {-99, -99}, {99, 95}};
        for (int[] one : others) {
            RulerFoot foot = Due.realmOf("r24 0;d0;");
            foot.warp(one[0]);
            foot.year(1);
            Due.due("warped() of " + one[0] + " less 4", one[1] + 1000, foot.warped());
        }
        // It is held each YEAR, not at the end of all: 99, 95, 99, 95.
        RulerFoot held = Due.realmOf("r24 0;d9,0;");
        held.warp(99);
        held.year(4);
        Due.due("warped() held each year", 1095, held.warped());
        RulerFoot low = Due.realmOf("r24 0;d0,9;");
        low.warp(-99);
        low.year(4);
        Due.due("warped() held each year below", 907, low.warped());
    }

    /** "if it is not LOST"; a YEAR is counted all the same */
    private static void aLostRodLiesStill() {
        RulerFoot foot = Due.realmOf("r24 1;d5,9;");
        Due.due("told(7) at first", 0, foot.told(7));
        foot.lose(true);
        Due.due("year(3) of a lost rod", 3, foot.year(3));
        Due.due("told(6) of a lost rod", 24, foot.told(6));
        Due.due("warped() of a lost rod", 1000, foot.warped());
        foot.lose(false);
        // YEAR 3 is the next: 3 left over by 2 is 1.
        foot.year(1);
        Due.due("told(6) found", 23, foot.told(6));
        Due.due("warped() found", 1005, foot.warped());
    }

    // ---- made, warped, planed, lost

    /** "MADE (n 0 .. 20, m 0 .. 11): hairs, and 1000. OUTSIDE, NOT: no REALM, it is LOST." */
    private static void makeTakes0To20FeetAnd0To11Twelfths() {
        RulerFoot foot = Due.realmOf("r240 0;");
        Due.due("make(-1, 0)", Due.OUTSIDE, foot.make(-1, 0));
        Due.due("make(0, -1)", Due.OUTSIDE, foot.make(0, -1));
        Due.due("make(21, 0)", Due.OUTSIDE, foot.make(21, 0));
        Due.due("make(0, 12)", Due.OUTSIDE, foot.make(0, 12));
        Due.due("told(8) behind refusals", 0, foot.told(8));
        Due.due("make(0, 0)", 1000, foot.make(0, 0));
        Due.due("make(0, 11)", 1220, foot.make(0, 11));
        Due.due("make(20, 0)", 5800, foot.make(20, 0));
        foot.warp(99);
        Due.due("make(20, 11), the most hairs", 6119, foot.make(20, 11));
        foot.warp(-99);
        Due.due("make(0, 0), the least hairs", 901, foot.make(0, 0));
        Due.due("thing(4, 0), the least hairs", 901, foot.thing(4, 0));
        foot.lose(true);
        Due.due("make(0, 0) of a lost rod", Due.NOT, foot.make(0, 0));
        Due.due("make(21, 0) of a lost rod", Due.OUTSIDE, foot.make(21, 0));
        foot.lose(false);
        Due.due("make(0, 0) of a found rod", 901, foot.make(0, 0));
        Due.due("make(0, 0) of no realm", Due.NOT, new RulerFoot().make(0, 0));
        Due.due("make(0, 12) of no realm", Due.OUTSIDE, new RulerFoot().make(0, 12));
    }

    /** "LONG times (12 times n, and m) / 12 (cut), and WARPED hairs" */
    private static void makingCutsAheadOfTheWarp() {
        RulerFoot foot = Due.realmOf("r23 0;");
        Due.due("make(0, 1) of 23 / 12", 1001, foot.make(0, 1));
        Due.due("make(1, 1) of 299 / 12", 1024, foot.make(1, 1));
        foot.warp(-2);
        // 1, and -2; cut behind the warp, it would be 0.
        Due.due("make(0, 1), warped", 999, foot.make(0, 1));
        foot.warp(-23);
        Due.due("make(1, 0) of 0 hairs", 1000, foot.make(1, 0));
        RulerFoot worn = Due.realmOf("r12 9;");
        worn.year(2);
        Due.due("make(0, 11) by one hair", 1000, worn.make(0, 11));
        Due.due("make(20, 11) by one hair", 1020, worn.make(20, 11));
    }

    /** "20 THINGS at most are kept, the oldest are lost" */
    private static void thingsAre20AtMost() {
        RulerFoot foot = Due.realmOf("r240 0;");
        for (int i = 0; i < 19; i++) {
            foot.make(i, i % 12);
            foot.year(1);
        }
        Due.due("told(8) of 19", 19, foot.told(8));
        foot.make(19, 7);
        foot.year(1);
        thingsAreFrom(foot, 0);
        foot.make(20, 8);
        foot.year(1);
        thingsAreFrom(foot, 1);
        for (int i = 0; i < 20; i++) {
            foot.make(1, i % 12);
        }
        Due.due("told(8) of 41", 20, foot.told(8));
        Due.due("thing(0, 2) of 41", 0, foot.thing(0, 2));
        Due.due("thing(0, 3) of 41", 21, foot.thing(0, 3));
        Due.due("thing(19, 2) of 41", 7, foot.thing(19, 2));
    }

    /** Thing i was made in year i, of i feet and i left over by 12 twelfths. */
    private static void thingsAreFrom(RulerFoot foot, int first) {
        Due.due("told(8) from " + first, 20, foot.told(8));
        for (int i = 0; i < 20; i++) {
            int made = first + i;
            int[] want = {1000 + 240 * made + 20 * (made % 12), made, made % 12, made};
            for (int what = 0; what < 4; what++) {
                Due.due("thing(" + i + ", " + what + ") from " + first, want[what], foot.thing(i, what));
            }
        }
        Due.due("thing(20, 0) from " + first, Due.UNKNOWN, foot.thing(20, 0));
    }

    /** "LONGEST: the THING of most hairs; of like ones the earliest; NONE." */
    private static void longestIsTheEarliestOfLike() {
        RulerFoot foot = Due.realmOf("r24 0;");
        Due.due("told(10) of none", Due.NONE, foot.told(10));
        foot.warp(-99);
        foot.make(0, 0);
        Due.due("told(10) of one", 0, foot.told(10));
        foot.make(1, 0);
        foot.make(1, 0);
        foot.make(0, 0);
        Due.due("told(10) of like ones", 1, foot.told(10));
        foot.warp(0);
        for (int i = 0; i < 16; i++) {
            foot.make(0, 0);
        }
        foot.warp(99);
        foot.make(20, 11);
        Due.due("told(10) of the last", 19, foot.told(10));
        foot.make(20, 11);
        Due.due("told(10) when the oldest is lost", 18, foot.told(10));
    }

    /** "WARP (v -99 .. 99): WARPED that was, and 1000. OUTSIDE, NOT: no REALM, it is LOST." */
    private static void warpTakes99EitherWay() {
        RulerFoot foot = Due.realmOf("r24 0;");
        Due.due("warp(-100)", Due.OUTSIDE, foot.warp(-100));
        Due.due("warp(100)", Due.OUTSIDE, foot.warp(100));
        Due.due("warp(-99)", 1000, foot.warp(-99));
        Due.due("warp(99)", 901, foot.warp(99));
        Due.due("warp(0)", 1099, foot.warp(0));
        foot.lose(true);
        Due.due("warp(5) of a lost rod", Due.NOT, foot.warp(5));
        Due.due("warp(100) of a lost rod", Due.OUTSIDE, foot.warp(100));
        Due.due("warped()", 1000, foot.warped());
        Due.due("warp(0) of no realm", Due.NOT, new RulerFoot().warp(0));
        Due.due("warp(-100) of no realm", Due.OUTSIDE, new RulerFoot().warp(-100));
    }

    /** "WARPED is 0, LONG is less by what it was WARPED by, either way (1 at least)" */
    private static void planingEitherWayTo1AtLeast() {
        int[][] cases = {{0, 24}, {1, 23}, {-1, 23}, {22, 2}, {-22, 2}, {23, 1}, {-23, 1}, {24, 1}, {-24, 1}, {99, 1},
            {-99, 1}};
        for (int[] one : cases) {
            RulerFoot foot = Due.realmOf("r24 0;");
            foot.warp(one[0]);
            Due.due("plane() of " + one[0], one[1], foot.plane());
            Due.due("told(6) planed of " + one[0], one[1], foot.told(6));
            Due.due("warped() planed of " + one[0], 1000, foot.warped());
            Due.due("plane() again", one[1], foot.plane());
            Due.due("told(0) planed", 24, foot.told(0));
            foot.lose(true);
            Due.due("plane() of a lost rod", Due.NOT, foot.plane());
        }
        Due.due("plane() of no realm", Due.NOT, new RulerFoot().plane());
    }

    /** "LOST (is), or FOUND: 1 it was LOST, 0 not. NOT: no REALM." */
    private static void loseTellsWhatWas() {
        RulerFoot foot = Due.realmOf("r24 0;");
        boolean[] is = {false, true, true, false, false, true};
        int[] was = {0, 0, 1, 1, 0, 0};
        for (int i = 0; i < is.length; i++) {
            Due.due("lose(" + is[i] + ") the " + i + "th", was[i], foot.lose(is[i]));
            Due.due("told(7) behind the " + i + "th", is[i] ? 1 : 0, foot.told(7));
        }
        Due.due("told(13) counts each", 6, foot.told(13));
        Due.due("lose(true) of no realm", Due.NOT, new RulerFoot().lose(true));
        Due.due("lose(false) of no realm", Due.NOT, new RulerFoot().lose(false));
    }

    // ---- hands, persons

    /** "A HAND is held (e -20 .. 20): how many are. OUTSIDE, NOT: no REALM, it is LOST" */
    private static void holdTakes20EitherWay() {
        RulerFoot foot = Due.realmOf("r240 0;");
        Due.due("hold(-21)", Due.OUTSIDE, foot.hold(-21));
        Due.due("hold(21)", Due.OUTSIDE, foot.hold(21));
        Due.due("told(9) behind refusals", 0, foot.told(9));
        Due.due("hold(-20)", 1, foot.hold(-20));
        Due.due("hold(20)", 2, foot.hold(20));
        Due.due("hand(0)", 220, foot.hand(0));
        Due.due("hand(1)", 260, foot.hand(1));
        foot.warp(50);
        foot.hold(0);
        Due.due("hand(2) is by LONG, not by WARPED", 240, foot.hand(2));
        foot.lose(true);
        Due.due("hold(0) of a lost rod", Due.NOT, foot.hold(0));
        Due.due("hold(21) of a lost rod", Due.OUTSIDE, foot.hold(21));
        Due.due("hold(0) of no realm", Due.NOT, new RulerFoot().hold(0));
        Due.due("hold(-21) of no realm", Due.OUTSIDE, new RulerFoot().hold(-21));
    }

    /** "0 hairs at least" */
    private static void handsAre0HairsAtLeast() {
        RulerFoot foot = Due.realmOf("r12 0;");
        int[][] cases = {{-11, 1}, {-12, 0}, {-13, 0}, {-20, 0}};
        for (int i = 0; i < cases.length; i++) {
            foot.hold(cases[i][0]);
            Due.due("hand of 12 and " + cases[i][0], cases[i][1], foot.hand(i));
        }
    }

    /** "8 at most"; "FULL: 8." */
    private static void handsAre8AtMost() {
        RulerFoot foot = Due.realmOf("r24 0;");
        for (int i = 1; i <= 8; i++) {
            Due.due("hold to " + i, i, foot.hold(i));
        }
        Due.due("hold to 9", Due.FULL, foot.hold(9));
        Due.due("hold(21) to 9", Due.OUTSIDE, foot.hold(21));
        Due.due("told(9) of 8", 8, foot.told(9));
        Due.due("hand(7) of 8", 32, foot.hand(7));
        Due.due("hand(8) of 8", Due.UNKNOWN, foot.hand(8));
        foot.lose(true);
        Due.due("hold(0) to 9 by a lost rod", Due.NOT, foot.hold(0));
        foot.lose(false);
        Due.due("drop() of 8", 8, foot.drop());
        Due.due("hold(0) behind drop()", 1, foot.hold(0));
        Due.due("hand(0) behind drop()", 24, foot.hand(0));
    }

    /** "All HANDS are dropped: how many were held." */
    private static void dropIsNeverRefused() {
        RulerFoot foot = Due.realmOf("r24 0;");
        Due.due("drop() of none", 0, foot.drop());
        Due.due("told(13) counts it", 1, foot.told(13));
        foot.hold(0);
        foot.lose(true);
        Due.due("drop() by a lost rod", 1, foot.drop());
        Due.due("drop() again", 0, foot.drop());
        RulerFoot none = new RulerFoot();
        Due.due("drop() of no realm", 0, none.drop());
        Due.due("told(13) of no realm", 1, none.told(13));
        Due.due("undo() of no realm", 0, none.undo());
        Due.due("undo() of none", Due.NOT, none.undo());
    }

    /** "SHORTENED (n 1 .. 999): how tall. UNKNOWN, OUTSIDE." */
    private static void shortenTakes1To999() {
        RulerFoot foot = Due.realmOf("r24 0;p999;p60;");
        Due.due("shorten(0, 0)", Due.OUTSIDE, foot.shorten(0, 0));
        Due.due("shorten(0, -1)", Due.OUTSIDE, foot.shorten(0, -1));
        Due.due("shorten(0, 1000)", Due.OUTSIDE, foot.shorten(0, 1000));
        Due.due("person(0, 0) behind refusals", 999, foot.person(0, 0));
        Due.due("shorten(0, 1)", 998, foot.shorten(0, 1));
        Due.due("shorten(1, 999)", 1, foot.shorten(1, 999));
        Due.due("shorten(2, 1)", Due.UNKNOWN, foot.shorten(2, 1));
        Due.due("shorten(-1, 1)", Due.UNKNOWN, foot.shorten(-1, 1));
        Due.due("shorten(2, 1000)", Due.UNKNOWN, foot.shorten(2, 1000));
        Due.due("shorten(0, 1) of no realm", Due.UNKNOWN, new RulerFoot().shorten(0, 1));
        foot.lose(true);
        Due.due("shorten(0, 1) by a lost rod", 997, foot.shorten(0, 1));
    }

    /** "a PERSON is n hairs less tall (1 at least)" */
    private static void personsAre1AtLeast() {
        RulerFoot foot = Due.realmOf("r24 0;p60;p60;p60;p1;");
        Due.due("shorten(0, 58)", 2, foot.shorten(0, 58));
        Due.due("shorten(1, 59)", 1, foot.shorten(1, 59));
        Due.due("shorten(2, 60)", 1, foot.shorten(2, 60));
        Due.due("shorten(3, 1)", 1, foot.shorten(3, 1));
        Due.due("told(13) counts it", 4, foot.told(13));
        Due.due("person(0, 0)", 2, foot.person(0, 0));
    }

    // ---- by draws

    /** "n YEARS (1 .. 60) BY DRAWS: THINGS kept. OUTSIDE, NOT: no REALM" */
    private static void driftTakes1To60Years() {
        RulerFoot foot = Due.realmOf("r240 0;");
        Due.due("drift(0)", Due.OUTSIDE, foot.drift(0));
        Due.due("drift(61)", Due.OUTSIDE, foot.drift(61));
        Due.due("seed behind refusals", 0, foot.seed(0));
        foot.drift(1);
        Due.due("told(5) behind one", 1, foot.told(5));
        foot.drift(60);
        Due.due("told(5) behind 61", 61, foot.told(5));
        Due.due("drift(1) of no realm", Due.NOT, new RulerFoot().drift(1));
        Due.due("drift(61) of no realm", Due.OUTSIDE, new RulerFoot().drift(61));
    }

    /** "FULL: YEARS are above 9000." */
    private static void driftIsFullAbove9000() {
        RulerFoot foot = at9000("r24 0;");
        int seed = Draws.seedOf(7, 0);
        foot.seed(seed);
        Due.due("drift(1) of 9000", 0, foot.drift(1));
        Due.due("told(5)", 9001, foot.told(5));
        Due.due("drift(1) of 9001", Due.FULL, foot.drift(1));
        Due.due("drift(61) of 9001", Due.OUTSIDE, foot.drift(61));
        Due.due("told(5) of 9001", 9001, foot.told(5));
        Due.due("seed of 9001", Draws.behind(seed, 7), foot.seed(0));
        foot.undo();
        foot.drift(60);
        Due.due("told(5) of 9000 and 60", 9060, foot.told(5));
    }

    private static RulerFoot drifted(int chance, int second, boolean lost) {
        RulerFoot foot = Due.realmOf("r200 3;d6;");
        foot.warp(50);
        foot.lose(lost);
        int seed = Draws.seedOf(chance, second);
        foot.seed(seed);
        foot.drift(1);
        int behind = foot.seed(0);
        Due.due("seed behind chance " + chance, Draws.behind(seed, chance), behind);
        foot.seed(behind);
        return foot;
    }

    private static void standsAt(RulerFoot foot, String what, int length, int bend, int lost, int things) {
        Due.due("told(6) " + what, length, foot.told(6));
        Due.due("warped() " + what, bend + 1000, foot.warped());
        Due.due("told(7) " + what, lost, foot.told(7));
        Due.due("told(8) " + what, things, foot.told(8));
        Due.due("told(5) " + what, 1, foot.told(5));
    }

    /** "ahead of each a DRAW of 8: on 0 it is LOST, on 1 FOUND" */
    private static void driftLosesAndFinds() {
        standsAt(drifted(0, 0, false), "lost ahead of the year", 200, 50, 1, 0);
        standsAt(drifted(0, 0, true), "lost again", 200, 50, 1, 0);
        standsAt(drifted(1, 0, true), "found ahead of the year", 197, 52, 0, 0);
        standsAt(drifted(1, 0, false), "found again", 197, 52, 0, 0);
    }

    /** "on 2 WARPED becomes a DRAW of 21, less 10" */
    private static void driftWarpsBy10EitherWay() {
        standsAt(drifted(2, 0, false), "warped the least", 197, -8, 0, 0);
        standsAt(drifted(2, 10, false), "warped by nothing", 197, 2, 0, 0);
        standsAt(drifted(2, 20, false), "warped the most", 197, 12, 0, 0);
    }

    /** "on 3 a THING of a DRAW of 10 feet is MADE" */
    private static void driftMakes0To9Feet() {
        for (int feet : new int[] {0, 9}) {
            RulerFoot foot = drifted(3, feet, false);
            standsAt(foot, "made of " + feet, 197, 52, 0, 1);
            int[] want = {1000 + 200 * feet + 50, feet, 0, 0};
            for (int what = 0; what < 4; what++) {
                Due.due("thing(0, " + what + ") of " + feet + " feet", want[what], foot.thing(0, what));
            }
        }
    }

    /** "(both DRAWS in any case), if it is not LOST" */
    private static void driftDrawsForALostRodToo() {
        standsAt(drifted(2, 20, true), "lost, not warped", 200, 50, 1, 0);
        standsAt(drifted(2, 0, true), "lost, not warped", 200, 50, 1, 0);
        standsAt(drifted(3, 9, true), "lost, nothing made", 200, 50, 1, 0);
        standsAt(drifted(3, 0, true), "lost, nothing made", 200, 50, 1, 0);
    }

    /** "ahead of each a DRAW of 8": on 4 to 7 nothing is told, so nothing else is drawn */
    private static void driftDrawsOnceElse() {
        for (int chance = 4; chance < 8; chance++) {
            standsAt(drifted(chance, 0, false), "by chance " + chance, 197, 52, 0, 0);
            standsAt(drifted(chance, 0, true), "lost, by chance " + chance, 200, 50, 1, 0);
        }
    }

    /** "THINGS kept"; "20 THINGS at most are kept, the oldest are lost" */
    private static void driftKeeps20Things() {
        RulerFoot foot = Due.realmOf("r240 0;");
        int seed = Draws.seedOf(3, 9);
        int other = Draws.seedOf(3, 4);
        for (int i = 1; i <= 22; i++) {
            foot.seed(i == 22 ? other : seed);
            Due.due("drift(1) to " + i, Math.min(20, i), foot.drift(1));
        }
        Due.due("thing(0, 3) of the earliest kept", 2, foot.thing(0, 3));
        Due.due("thing(19, 1) of the latest", 4, foot.thing(19, 1));
        Due.due("thing(19, 3) of the latest", 21, foot.thing(19, 3));
    }

    /** "each DRAW it becomes it times 1103515245 and 12345, left over by 2 to the 31" */
    private static void theSeedIsLeftOverBy2ToThe31() {
        for (int seed : new int[] {0, 1, 65535, 65536, 1073741823, 1073741824, 2147483646, 2147483647}) {
            RulerFoot foot = Due.realmOf("r24 0;");
            foot.seed(seed);
            Draws draws = new Draws(seed);
            for (int year = 0; year < 40; year++) {
                int chance = draws.draw(8);
                if (chance == 2 || chance == 3) {
                    draws.draw(2);
                }
                foot.drift(1);
                int now = foot.seed(0);
                Due.due("seed of " + seed + " behind " + year, draws.seed(), now);
                foot.seed(now);
            }
        }
    }

    // ---- undone

    private static final String REALM = "r24 1;n7;o10 30;p60;p41;d5,0,9;";

    private static void someDone(RulerFoot foot) {
        for (int i = 0; i < REALM.length(); i++) {
            foot.feed(REALM.charAt(i));
        }
        foot.realm();
        foot.keep(1);
        foot.year(4);
        foot.make(2, 3);
        foot.warp(-7);
        foot.hold(4);
        foot.shorten(0, 6);
        foot.see(1, 24);
        foot.write(1, 41);
    }

    private static void manyDone(RulerFoot foot) {
        someDone(foot);
        for (int i = 0; i < 19; i++) {
            foot.make(i, 1);
        }
        for (int i = 0; i < 6; i++) {
            foot.hold(i);
        }
        // So that fewer than 16 are kept, and one more undone leaves the same.
        foot.keep(0);
        foot.hold(9);
    }

    /** "all of section 2 is as ahead of it; THE SEED stays" */
    private static void undoneIsAllOfSection2() {
        undone("year()", foot -> foot.year(60));
        undone("make()", foot -> foot.make(20, 11));
        undone("warp()", foot -> foot.warp(99));
        undone("plane()", RulerFoot::plane);
        undone("lose(true)", foot -> foot.lose(true));
        undone("lose(false)", foot -> foot.lose(false));
        undone("drop()", RulerFoot::drop);
        undone("shorten()", foot -> foot.shorten(0, 999));
        undone("drift()", foot -> foot.drift(60));
        Shown.unchanged("hold() and undo()", RodBoundsTest::someDone, foot -> {
            foot.hold(-20);
            foot.undo();
        });
        RulerFoot foot = new RulerFoot();
        someDone(foot);
        foot.seed(17);
        foot.drift(60);
        int seed = foot.seed(0);
        Due.due("the seed of drift(60) is another", 1, seed == 17 ? 0 : 1);
        foot.seed(seed);
        foot.undo();
        Due.due("the seed stays when drift() is undone", seed, foot.seed(0));
        foot.undo();
        Due.due("the seed stays when undone again", 0, foot.seed(0));
    }

    private static void undone(String call, Consumer<RulerFoot> act) {
        Consumer<RulerFoot> more = foot -> {
            act.accept(foot);
            foot.undo();
            foot.seed(0);
        };
        Shown.unchanged(call + " and undo()", RodBoundsTest::someDone, more);
        Shown.unchanged(call + " and undo() of many", RodBoundsTest::manyDone, more);
    }

    /** "16 at most are kept, the oldest are lost"; "The latest is undone: how many more can be. NOT: none." */
    private static void undoneAre16AtMost() {
        for (int done : new int[] {1, 15, 16, 17, 33, 40}) {
            RulerFoot foot = Due.realmOf("r24 0;");
            for (int i = 1; i <= done; i++) {
                foot.warp(i);
                Due.due("told(13) of " + i, Math.min(16, i), foot.told(13));
            }
            int kept = Math.min(16, done);
            for (int left = kept - 1; left >= 0; left--) {
                Due.due("undo() of " + done, left, foot.undo());
                Due.due("warped() of " + done + ", " + left + " left", 1000 + done - kept + left, foot.warped());
            }
            Due.due("undo() of none", Due.NOT, foot.undo());
            Due.due("warped() behind undo() of none", 1000 + done - kept, foot.warped());
            Due.due("told(13) of none", 0, foot.told(13));
            foot.warp(98);
            Due.due("undo() of one more", 0, foot.undo());
            Due.due("warped() as ahead of it", 1000 + done - kept, foot.warped());
        }
        Due.due("undo() of a new object", Due.NOT, new RulerFoot().undo());
    }

    /** "the latest of year(), make(), .. drift() that was not refused" */
    private static void undoneAreTheUnrefusedAlone() {
        RulerFoot foot = Due.realmOf("r24 0;p9;");
        foot.feed('r');
        foot.see(1, 1);
        foot.write(0, 9);
        foot.tear();
        foot.seed(4);
        foot.had(4);
        Due.due("told(13) of what is no doing", 0, foot.told(13));
        // What changes nothing was done all the same.
        foot.warp(0);
        foot.plane();
        foot.lose(false);
        foot.drop();
        Due.due("told(13) of what was done", 4, foot.told(13));
        foot.warp(100);
        foot.year(0);
        foot.drift(61);
        foot.make(21, 0);
        foot.hold(21);
        foot.shorten(1, 1);
        foot.shorten(0, 0);
        Due.due("told(13) behind refusals", 4, foot.told(13));
        foot.undo();
        Due.due("undo() is no doing", 3, foot.told(13));
        foot.keep(0);
        Due.due("told(13) behind keep()", 0, foot.told(13));
    }
}
