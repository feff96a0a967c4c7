/** Section 1 and promises 1 to 4 at their bounds: each sentence of the document has a test of its own. */
public final class TextBoundsTest {
    /** Goes ahead of clauses, so that a fault in them is at 6 or later. */
    private static final String ROD = "r24 1;";

    public static void main(String[] args) {
        aNewObjectHasNoRealm();
        feedTakesLetters0To255();
        aTextHas240LettersAtMost();
        aTextOf240LettersIsReadToItsEnd();
        theTextIsEmptyBehindRealm();
        rodIs12To240HairsLong();
        rodWears0To9HairsAYear();
        rodIsToldFirst();
        rodIsToldOnce();
        nicksAre5AtMost();
        nicksAreAt1To239();
        nicksAreToldOnceEach();
        officesAre6AtMost();
        officesAsk1To99();
        officesAskNoMoreThanTheirEnd();
        personsAre6AtMost();
        personsAre1To999HairsTall();
        swaysAre1To12();
        swaysAre0To9();
        swaysAreToldOnce();
        swaysComeRoundAgain();
        swaysUntoldBendNothing();
        numbersHaveOneToThreeFigures();
        aWordIsOneLetter();
        blanksStandAnywhereButInNumbers();
        blanksAreNumber32Alone();
        twoNumbersNeedABlank();
        theEndIsAtTheTextsLength();
        theFirstFaultIsTold();
        ofFaultsAtOneLetterTheLeast();
        anEmptyTextIsNoRealm();
        realmBeginsAnew();
        aFaultLeavesAllElse();
        faultIsOfTheLatestRealm();
        Due.end();
    }

    private static void good(String text) {
        RulerFoot foot = new RulerFoot();
        int answer = Due.tell(foot, text);
        Due.due("realm() of " + text + " is without a fault", 1, answer >= 12 ? 1 : 0);
        Due.due("told(0) of " + text, answer, foot.told(0));
        Due.due("fault() of " + text, Due.NONE, foot.fault());
    }

    private static void bad(int kind, int place, String text) {
        RulerFoot foot = new RulerFoot();
        Due.due("realm() of " + text, -10 - kind, Due.tell(foot, text));
        Due.due("fault() of " + text, place, foot.fault());
        Due.due("told(0) of " + text, 0, foot.told(0));
    }

    /** "RulerFoot(): No REALM." */
    private static void aNewObjectHasNoRealm() {
        RulerFoot foot = new RulerFoot();
        int[] want = {0, 0, 0, 0, 0, 0, 0, 0, 0, 0, Due.NONE, 0, 0, 0};
        for (int what = 0; what < want.length; what++) {
            Due.due("told(" + what + ") of a new object", want[what], foot.told(what));
        }
        Due.due("warped() of a new object", Due.NOT, foot.warped());
        Due.due("fault() of a new object", Due.NONE, foot.fault());
        Due.due("nick(0) of a new object", Due.NONE, foot.nick(0));
        Due.due("posts(NONE) of a new object", 0, foot.posts(Due.NONE));
        Due.due("alike(NONE) of a new object", 0, foot.alike(Due.NONE));
        Due.due("judge() of a new object", Due.NONE, foot.judge());
        Due.due("tear() of a new object", 0, foot.tear());
        Due.due("drop() of a new object", 0, foot.drop());
        Due.due("seed(1) of a new object", 0, foot.seed(1));
    }

    /** "One letter (a number 0 .. 255) comes behind THE TEXT: how many it has. OUTSIDE" */
    private static void feedTakesLetters0To255() {
        RulerFoot foot = new RulerFoot();
        Due.due("feed(-1)", Due.OUTSIDE, foot.feed(-1));
        Due.due("feed(0)", 1, foot.feed(0));
        Due.due("feed(255)", 2, foot.feed(255));
        Due.due("feed(256)", Due.OUTSIDE, foot.feed(256));
        // Not 'r' by its lowest eight bits.
        Due.due("feed('r' and 256)", Due.OUTSIDE, foot.feed('r' + 256));
        Due.due("feed('r' less 256)", Due.OUTSIDE, foot.feed('r' - 256));
        Due.due("told(4)", 2, foot.told(4));
    }

    /** "THE REALM is told in a text (240 letters at most)"; "FULL (240)" */
    private static void aTextHas240LettersAtMost() {
        RulerFoot foot = new RulerFoot();
        for (int i = 1; i <= 239; i++) {
            Due.due("feed to " + i, i, foot.feed(' '));
        }
        Due.due("told(4) of 239", 239, foot.told(4));
        Due.due("feed to 240", 240, foot.feed(' '));
        Due.due("feed to 241", Due.FULL, foot.feed('x'));
        Due.due("feed(256) to 241", Due.OUTSIDE, foot.feed(256));
        Due.due("told(4) of 240", 240, foot.told(4));
        Due.due("realm() of 240 blanks", 0, foot.realm());
        Due.due("fault() of 240 blanks", Due.NONE, foot.fault());
        Due.due("feed behind it", 1, foot.feed('x'));
    }

    private static String wide(String front, String end) {
        return front + " ".repeat(240 - front.length() - end.length()) + end;
    }

    /** "240 letters at most": the last letter counts, and the end behind it has a place of its own */
    private static void aTextOf240LettersIsReadToItsEnd() {
        String most = "r240 9;n235;n236;n237;n238;n239;" + "o99 99;".repeat(6) + "p999;".repeat(6)
                + "d9,9,9,9,9,9,9,9,9,9,9,0";
        RulerFoot foot = new RulerFoot();
        Due.due("realm() of 240 letters", 240, Due.tell(foot, wide(most, ";")));
        int[] want = {240, 5, 6, 6, 0};
        for (int what = 0; what < want.length; what++) {
            Due.due("told(" + what + ") of 240 letters", want[what], foot.told(what));
        }
        Due.due("nick(4) of 240 letters", 239, foot.nick(4));
        Due.due("office(5, 1) of 240 letters", 99, foot.office(5, 1));
        Due.due("person(5, 0) of 240 letters", 999, foot.person(5, 0));
        Due.due("longAt(12, 1) of 240 letters", 1051, foot.longAt(12, 1));
        good(wide("r24 1;", "n5;"));
        bad(1, 240, wide("r24 1;", "n5"));
        bad(1, 239, wide("r24 1;", "n5x"));
        bad(1, 239, wide("r24 1;", "x"));
        bad(1, 240, wide("r24 1;", "n"));
        bad(2, 238, wide("r24 1;", "n0;"));
        bad(3, 239, wide("r24 1;", "r"));
        bad(4, 238, wide("r24 1;n5;", "n5;"));
    }

    /** "THE TEXT (it is empty then, with a FAULT, too) becomes THE REALM" */
    private static void theTextIsEmptyBehindRealm() {
        RulerFoot foot = new RulerFoot();
        Due.due("realm()", 24, Due.tell(foot, "r24 1;"));
        Due.due("told(4)", 0, foot.told(4));
        Due.due("realm() with a fault", -11, Due.tell(foot, "r24 1;x"));
        Due.due("told(4) behind a fault", 0, foot.told(4));
        Due.due("realm() behind a fault", 25, Due.tell(foot, "r25 1;"));
        Due.due("realm() of what is empty", 0, foot.realm());
    }

    /** "THE ROD is L hairs long, 12 .. 240" */
    private static void rodIs12To240HairsLong() {
        bad(2, 1, "r0 0;");
        bad(2, 1, "r11 0;");
        good("r12 0;");
        good("r240 0;");
        bad(2, 1, "r241 0;");
        bad(2, 1, "r999 0;");
        RulerFoot foot = new RulerFoot();
        Due.due("realm() of the least", 12, Due.tell(foot, "r12 0;"));
        Due.due("told(6) of the least", 12, foot.told(6));
        Due.due("realm() of the most", 240, Due.tell(foot, "r240 0;"));
        Due.due("told(6) of the most", 240, foot.told(6));
    }

    /** "wears W hairs a YEAR, 0 .. 9" */
    private static void rodWears0To9HairsAYear() {
        good("r24 0;");
        good("r24 9;");
        bad(2, 4, "r24 10;");
        bad(2, 4, "r24 999;");
        Due.due("longAt(1, 0) worn by 0", 24, Due.realmOf("r24 0;").longAt(1, 0));
        Due.due("longAt(1, 0) worn by 9", 15, Due.realmOf("r24 9;").longAt(1, 0));
    }

    /** "first"; "another word first than 'r'" */
    private static void rodIsToldFirst() {
        bad(1, 0, "n5;r24 1;");
        bad(1, 0, "o1 2;r24 1;");
        bad(1, 0, "p5;r24 1;");
        bad(1, 0, "d4;r24 1;");
        bad(1, 3, "   p5;");
        bad(1, 0, ";r24 1;");
        bad(1, 0, "24 1;");
    }

    /** "3 'r', 'd' again (at it)" */
    private static void rodIsToldOnce() {
        bad(3, 6, "r24 1;r24 1;");
        bad(3, 10, "r24 1;n5; r;");
    }

    /** "5 NICKS at most"; "3 a sixth 'n' (at it)" */
    private static void nicksAre5AtMost() {
        good(ROD + "n1;n2;n3;n4;n5;");
        bad(3, 21, ROD + "n1;n2;n3;n4;n5;n6;");
        bad(3, 22, ROD + "n1;n2;n3;n4;n5; n");
        RulerFoot foot = Due.realmOf(ROD + "n1;n2;n3;n4;n5;");
        Due.due("told(1) of five", 5, foot.told(1));
        Due.due("nick(4) of five", 5, foot.nick(4));
        Due.due("nick(5) of five", Due.NONE, foot.nick(5));
        Due.due("nick(-1) of five", Due.NONE, foot.nick(-1));
        Due.due("told(1) of none", 0, Due.realmOf(ROD).told(1));
        Due.due("nick(0) of none", Due.NONE, Due.realmOf(ROD).nick(0));
    }

    /** "at X hairs, 1 .. 239" */
    private static void nicksAreAt1To239() {
        bad(2, 7, ROD + "n0;");
        good(ROD + "n1;");
        good(ROD + "n239;");
        bad(2, 7, ROD + "n240;");
        bad(2, 7, "r12 0;n240;");
        bad(2, 8, "r240 0;n240;");
        Due.due("nick(0) of the least", 1, Due.realmOf(ROD + "n1;").nick(0));
        Due.due("nick(0) of the most", 239, Due.realmOf(ROD + "n239;").nick(0));
    }

    /** "each once"; "4 a NICK that was told (at the X)" */
    private static void nicksAreToldOnceEach() {
        bad(4, 10, ROD + "n7;n7;");
        bad(4, 12, ROD + "n7;n  7;");
        bad(4, 10, ROD + "n7;n007;");
        bad(4, 19, ROD + "n7;n1;n2;n3;n7;");
        bad(4, 19, ROD + "n1;n2;n3;n7;n7;");
        good(ROD + "n7;n8;n6;n70;n77;");
        // A NICK of an earlier realm, or of a text with a FAULT, was not told in this one.
        RulerFoot foot = Due.realmOf(ROD + "n7;");
        for (int i = 0; i < 4; i++) {
            Due.due("realm() of a like nick", 24, Due.tell(foot, ROD + "n7;"));
        }
        Due.due("realm() with a fault", -12, Due.tell(foot, ROD + "n9;n0;"));
        Due.due("realm() of a nick behind a fault", 24, Due.tell(foot, ROD + "n9;"));
    }

    /** "6 OFFICES at most"; "3 a seventh 'o' (at it)" */
    private static void officesAre6AtMost() {
        good(ROD + "o1 2;".repeat(6));
        bad(3, 36, ROD + "o1 2;".repeat(7));
        bad(3, 37, ROD + "o1 2;".repeat(6) + " o");
        RulerFoot foot = Due.realmOf(ROD + "o1 2;".repeat(5) + "o3 4;");
        Due.due("told(2) of six", 6, foot.told(2));
        Due.due("office(5, 0) of six", 3, foot.office(5, 0));
        Due.due("office(6, 0) of six", Due.UNKNOWN, foot.office(6, 0));
        Due.due("told(2) of none", 0, Due.realmOf(ROD).told(2));
        Due.due("office(0, 0) of none", Due.UNKNOWN, Due.realmOf(ROD).office(0, 0));
    }

    /** "ask A to B feet, in tenths of THE ROD, 1 .. 99" */
    private static void officesAsk1To99() {
        bad(2, 7, ROD + "o0 5;");
        good(ROD + "o1 5;");
        good(ROD + "o99 99;");
        bad(2, 7, ROD + "o100 100;");
        bad(2, 9, ROD + "o1 0;");
        good(ROD + "o1 1;");
        good(ROD + "o1 99;");
        bad(2, 9, ROD + "o1 100;");
    }

    /** "A not above B"; "2 a B below its A (at its first)" */
    private static void officesAskNoMoreThanTheirEnd() {
        good(ROD + "o50 51;");
        good(ROD + "o50 50;");
        bad(2, 10, ROD + "o50 49;");
        bad(2, 11, ROD + "o50  1;");
        RulerFoot foot = Due.realmOf(ROD + "o50 50;o1 99;");
        Due.due("office(0, 0)", 50, foot.office(0, 0));
        Due.due("office(0, 1)", 50, foot.office(0, 1));
        Due.due("office(1, 0)", 1, foot.office(1, 0));
        Due.due("office(1, 1)", 99, foot.office(1, 1));
    }

    /** "6 PERSONS at most"; "3 a seventh 'p' (at it)" */
    private static void personsAre6AtMost() {
        good(ROD + "p9;".repeat(6));
        bad(3, 24, ROD + "p9;".repeat(7));
        bad(3, 25, ROD + "p9;".repeat(6) + " p");
        RulerFoot foot = Due.realmOf(ROD + "p9;".repeat(5) + "p8;");
        Due.due("told(3) of six", 6, foot.told(3));
        Due.due("person(5, 0) of six", 8, foot.person(5, 0));
        Due.due("person(6, 0) of six", Due.UNKNOWN, foot.person(6, 0));
        Due.due("told(3) of none", 0, Due.realmOf(ROD).told(3));
        Due.due("person(0, 0) of none", Due.UNKNOWN, Due.realmOf(ROD).person(0, 0));
    }

    /** "H hairs tall, 1 .. 999" */
    private static void personsAre1To999HairsTall() {
        bad(2, 7, ROD + "p0;");
        bad(2, 7, ROD + "p000;");
        good(ROD + "p1;");
        good(ROD + "p999;");
        bad(2, 7, ROD + "p1000;");
        RulerFoot foot = Due.realmOf(ROD + "p1;p999;");
        Due.due("person(0, 0)", 1, foot.person(0, 0));
        Due.due("person(1, 0)", 999, foot.person(1, 0));
    }

    /** "SWAYS: 1 to 12 numbers"; "1 a 13th D: at its ','" */
    private static void swaysAre1To12() {
        bad(1, 7, ROD + "d;");
        bad(1, 7, ROD + "d,4;");
        good(ROD + "d4;");
        good(ROD + "d0,1,2,3,4,5,6,7,8,9,0,1;");
        bad(1, 30, ROD + "d0,1,2,3,4,5,6,7,8,9,0,1,2;");
        bad(1, 31, ROD + "d0,1,2,3,4,5,6,7,8,9,0,1 , 2;");
        bad(1, 30, ROD + "d0,1,2,3,4,5,6,7,8,9,0,1,");
        bad(1, 30, ROD + "d0,1,2,3,4,5,6,7,8,9,0,1,99;");
        bad(1, 29, ROD + "d0,1,2,3,4,5,6,7,8,9,0,;");
        bad(1, 30, ROD + "d0,1,2,3,4,5,6,7,8,9,0,1");
    }

    /** "numbers, 0 .. 9" */
    private static void swaysAre0To9() {
        good(ROD + "d0;");
        good(ROD + "d9;");
        bad(2, 7, ROD + "d10;");
        bad(2, 9, ROD + "d9,10;");
        bad(2, 29, ROD + "d0,1,2,3,4,5,6,7,8,9,0,10;");
        Due.due("longAt(1, 1) of the least", 996, Due.realmOf(ROD + "d0;").longAt(1, 1));
        Due.due("longAt(1, 1) of the most", 1005, Due.realmOf(ROD + "d9;").longAt(1, 1));
    }

    /** "(SWAYS: .. once)"; "3 'r', 'd' again (at it)" */
    private static void swaysAreToldOnce() {
        bad(3, 9, ROD + "d4;d4;");
        bad(3, 13, ROD + "d4;p5; d;");
    }

    /** "in YEAR k it bends by the one of k left over by how many, less 4" */
    private static void swaysComeRoundAgain() {
        RulerFoot twelve = Due.realmOf(ROD + "d9,4,4,4,4,4,4,4,4,4,4,5;");
        Due.due("longAt(1, 1) of twelve", 1005, twelve.longAt(1, 1));
        Due.due("longAt(11, 1) of twelve", 1005, twelve.longAt(11, 1));
        Due.due("longAt(12, 1) of twelve", 1006, twelve.longAt(12, 1));
        Due.due("longAt(13, 1) of twelve", 1011, twelve.longAt(13, 1));
        RulerFoot two = Due.realmOf(ROD + "d9,5;");
        Due.due("longAt(2, 1) of two", 1006, two.longAt(2, 1));
        Due.due("longAt(3, 1) of two", 1011, two.longAt(3, 1));
        RulerFoot one = Due.realmOf(ROD + "d5;");
        Due.due("longAt(60, 1) of one", 1060, one.longAt(60, 1));
    }

    /** "4 untold" */
    private static void swaysUntoldBendNothing() {
        Due.due("longAt(60, 1) untold", 1000, Due.realmOf(ROD).longAt(60, 1));
        // Those of an earlier realm are untold in this one.
        RulerFoot foot = Due.realmOf(ROD + "d9,9;");
        Due.due("realm()", 24, Due.tell(foot, ROD));
        Due.due("longAt(60, 1) behind another realm", 1000, foot.longAt(60, 1));
        Due.due("realm()", 24, Due.tell(foot, ROD));
        Due.due("longAt(60, 1) behind two realms", 1000, foot.longAt(60, 1));
    }

    /** "NUMBERS have one to three figures"; "2 a NUMBER of four figures or more" */
    private static void numbersHaveOneToThreeFigures() {
        bad(1, 1, "r;");
        bad(1, 2, "r ;");
        good("r24 1;");
        good("r024 001;");
        good(ROD + "n1;n02;n003;");
        bad(2, 1, "r0024 1;");
        bad(2, 4, "r24 0001;");
        bad(2, 7, ROD + "n0005;");
        bad(2, 7, ROD + "o0001 5;");
        bad(2, 9, ROD + "o1 0005;");
        bad(2, 7, ROD + "p0005;");
        bad(2, 7, ROD + "d0004;");
        bad(2, 9, ROD + "d4,0004;");
        // By the wrap of 2 to the 32 it would be 24, by that of 2 to the 64 too.
        bad(2, 1, "r4294967320 1;");
        bad(2, 1, "r18446744073709551640 1;");
        bad(2, 1, "r" + "0".repeat(238) + "1");
    }

    /** "a word is one letter"; "1 a letter that is no word" */
    private static void aWordIsOneLetter() {
        bad(1, 1, "rr24 1;");
        bad(1, 7, ROD + "nn5;");
        bad(1, 7, ROD + "po5;");
        bad(1, 0, "R24 1;");
        for (char sign : new char[] {'a', 'c', 'e', 'm', 'q', 's', 'N', 'O', 'P', 'D', ';', ',', '0', '9', '-'}) {
            bad(1, 6, ROD + sign);
            bad(1, 7, ROD + " " + sign + "5;");
        }
        // Just beside the figures, and ahead of what is a sign.
        bad(1, 7, ROD + "n/;");
        bad(1, 7, ROD + "n:;");
        bad(1, 7, ROD + "n-5;");
        bad(1, 7, ROD + "n+5;");
        bad(1, 8, ROD + "n5:");
        bad(1, 8, ROD + "n5,6;");
        bad(1, 8, ROD + "p5,6;");
        bad(1, 10, ROD + "o1 2,3;");
        bad(1, 8, ROD + "o1,2;");
        bad(1, 3, "r24,1;");
    }

    /** "blanks (32) may stand anywhere but within NUMBERS" */
    private static void blanksStandAnywhereButInNumbers() {
        good("  r  24  1  ;  n  5  ;  o  1  2  ;  p  5  ;  d  4  ,  5  ;  ");
        good("r24 1 ;n5 ;o1 2 ;p5 ;d4 ,5 ;");
        bad(2, 1, "r2 4;");
        bad(1, 6, "r24 1 1;");
        bad(1, 9, ROD + "n1 2;");
        bad(1, 11, ROD + "o1 2 3;");
        bad(1, 9, ROD + "p1 2;");
        bad(1, 9, ROD + "d1 2;");
    }

    /** "blanks (32)" */
    private static void blanksAreNumber32Alone() {
        for (int letter : new int[] {0, 9, 10, 13, 31, 33, 127, 160, 255}) {
            bad(1, 0, (char) letter + ROD);
            bad(1, 1, "r" + (char) letter + "24 1;");
            bad(1, 3, "r24" + (char) letter + "1;");
            bad(1, 6, ROD + (char) letter);
        }
    }

    /** "two NUMBERS side by side need one" */
    private static void twoNumbersNeedABlank() {
        bad(1, 4, "r120;");
        bad(2, 1, "r241;");
        good("r12 0;");
        good("r12   0;");
        bad(1, 9, ROD + "o12;");
        good(ROD + "o1 2;");
    }

    /** "FAULTS, at the first letter that has one (the end at the text's length)" */
    private static void theEndIsAtTheTextsLength() {
        bad(1, 1, "r");
        bad(1, 2, "r ");
        bad(1, 3, "r24");
        bad(1, 4, "r24 ");
        bad(1, 5, "r24 1");
        bad(1, 8, "r24 1   ");
        bad(1, 7, ROD + "n");
        bad(1, 8, ROD + "n5");
        bad(1, 7, ROD + "o");
        bad(1, 8, ROD + "o1");
        bad(1, 9, ROD + "o1 ");
        bad(1, 10, ROD + "o1 2");
        bad(1, 8, ROD + "p5");
        bad(1, 7, ROD + "d");
        bad(1, 8, ROD + "d4");
        bad(1, 9, ROD + "d4,");
    }

    /** "FAULTS, at the first letter that has one" */
    private static void theFirstFaultIsTold() {
        bad(2, 1, "r11 10;x");
        bad(2, 4, "r24 10;r");
        bad(1, 6, ROD + "x;n0;");
        bad(2, 7, ROD + "n0;x");
        bad(3, 6, ROD + "r11 1;");
        bad(4, 10, ROD + "n5;n5;n0;");
        bad(2, 7, ROD + "o0 100;");
        bad(2, 7, ROD + "o9999 1;");
        bad(2, 9, ROD + "o5 4x");
        bad(4, 10, ROD + "n5;n5x");
        bad(2, 7, ROD + "d10,11;");
        bad(2, 1, "r0");
    }

    /** "of these the least" */
    private static void ofFaultsAtOneLetterTheLeast() {
        // A NUMBER that cannot stand there has too many figures besides.
        bad(1, 9, ROD + "n5 1234;");
        bad(1, 6, ROD + "1234");
        bad(1, 0, "1234");
        // A sixth 'n' with a NICK that was told: the 'n' is the first letter.
        bad(3, 21, ROD + "n1;n2;n3;n4;n5;n1;");
        // Out of its bounds and four figures: one FAULT.
        bad(2, 7, ROD + "p0000;");
    }

    /** "An empty text (or one of blanks alone): no REALM."; "L (0: no REALM)" */
    private static void anEmptyTextIsNoRealm() {
        for (String text : new String[] {"", " ", "     "}) {
            RulerFoot foot = Due.realmOf(ROD + "n5;o1 99;p9;d5;");
            foot.seed(3);
            foot.make(1, 0);
            foot.hold(0);
            foot.see(1, 24);
            foot.write(0, 9);
            foot.keep(0);
            foot.lose(true);
            Due.due("realm() of " + text.length() + " blanks", 0, Due.tell(foot, text));
            Due.due("fault() of blanks", Due.NONE, foot.fault());
            foot.seed(foot.seed(0));
            RulerFoot none = new RulerFoot();
            none.seed(3);
            Shown.same("an object behind an empty text, beside a new one", foot, none);
        }
    }

    /**
     * "YEAR 0, THE ROD as told, no THINGS, no HANDS; nothing SEEN, no BOOK; IMAGES, what could be undone are gone;
     * THE SEED stays"
     */
    private static void realmBeginsAnew() {
        RulerFoot foot = Due.realmOf("r50 3;n5;n6;o1 99;p9;p8;d5;");
        foot.seed(3);
        foot.keep(1);
        foot.year(9);
        foot.make(1, 0);
        foot.hold(0);
        foot.warp(8);
        foot.shorten(0, 3);
        foot.see(1, 24);
        foot.write(0, 9);
        foot.keep(0);
        foot.lose(true);
        Due.due("realm()", 24, Due.tell(foot, ROD + "n9;p7;"));
        RulerFoot other = Due.realmOf(ROD + "n9;p7;");
        other.seed(3);
        Shown.same("an earlier realm", foot, other);
        RulerFoot third = Due.realmOf("r50 3;n5;n6;o1 99;p9;p8;d5;");
        Due.due("realm()", 51, Due.tell(third, "r51 2;n1;o1 1;o2 2;p1;p2;p3;d9,9;"));
        Due.due("realm() with a fault", -13, Due.tell(third, "r52 2;n8;o1 1;p1;d9,9;d"));
        Due.due("realm()", 24, Due.tell(third, ROD + "n9;p7;"));
        Shown.same("three earlier texts", third, Due.realmOf(ROD + "n9;p7;"));
    }

    /** "-10 less the number of its FAULT (all else is as it was)" */
    private static void aFaultLeavesAllElse() {
        String[] texts = {"r30 2;n7;x", "r30 2;n7;p0;", "r30 2;n7;d4;d4;", "r30 2;n7;n8;n7;"};
        for (int kind = 1; kind <= 4; kind++) {
            RulerFoot foot = aRealm();
            Due.due("realm()", -10 - kind, Due.tell(foot, texts[kind - 1]));
            Shown.sameButFault("a text with fault " + kind, foot, aRealm());
        }
    }

    private static RulerFoot aRealm() {
        RulerFoot foot = Due.realmOf("r50 3;n5;n6;o1 99;p9;p8;d5;");
        foot.seed(3);
        foot.keep(1);
        foot.year(2);
        foot.make(1, 0);
        foot.hold(0);
        foot.shorten(0, 3);
        foot.see(1, 24);
        foot.write(0, 9);
        return foot;
    }

    /** "The letter of the FAULT of the latest realm(); NONE." */
    private static void faultIsOfTheLatestRealm() {
        RulerFoot foot = new RulerFoot();
        Due.due("fault() ahead of any", Due.NONE, foot.fault());
        Due.due("realm()", -11, Due.tell(foot, "x"));
        Due.due("fault() at the first letter", 0, foot.fault());
        foot.feed('r');
        Due.due("fault() stays while letters come", 0, foot.fault());
        Due.due("realm()", -11, foot.realm());
        Due.due("fault() of the later one", 1, foot.fault());
        Due.due("fault() again", 1, foot.fault());
        Due.due("realm()", 24, Due.tell(foot, ROD));
        Due.due("fault() of none", Due.NONE, foot.fault());
        Due.due("realm()", -11, Due.tell(foot, "r24"));
        Due.due("fault()", 3, foot.fault());
        Due.due("realm() of nothing", 0, foot.realm());
        Due.due("fault() of nothing", Due.NONE, foot.fault());
    }
}
