import java.util.function.Consumer;
import java.util.function.ToIntFunction;

/**
 * 'Terms': "REFUSALS, of several the first in this order: UNKNOWN, OUTSIDE, NOT, FULL"; "What is refused changes
 * nothing". Every refusal that a promise names, in every state in which it is due, and what the object shows then.
 */
public final class RefusalsTest {
    private static final int LEAST = Integer.MIN_VALUE;
    private static final int MOST = Integer.MAX_VALUE;
    private static final String TEXT = "r24 1;n7;n9;o10 30;o20 40;p60;p41;p9;d5,0,9;";

    private static String state;
    private static Consumer<RulerFoot> steps;

    public static void main(String[] args) {
        in("a new object", foot -> { });
        always();
        withoutRealm();
        neitherUndoneNorKept();
        in("no realm, some letters", RefusalsTest::noRealm);
        always();
        withoutRealm();
        in("a realm", RefusalsTest::ordinary);
        always();
        besideWhatThereIs();
        in("a lost rod", RefusalsTest::lost);
        always();
        besideWhatThereIs();
        withoutRod();
        in("a full text", RefusalsTest::fullText);
        always();
        withFullText();
        in("years above 9000", RefusalsTest::fullYears);
        always();
        withFullYears();
        in("full hands, doors, book", RefusalsTest::fullHands);
        always();
        besideWhatIsFull();
        in("full hands, a lost rod", RefusalsTest::fullHandsLost);
        withoutRod();
        in("a realm behind a fault", RefusalsTest::faulty);
        always();
        Due.end();
    }

    // ---- the states

    private static void in(String name, Consumer<RulerFoot> how) {
        state = name;
        steps = how;
    }

    private static void feed(RulerFoot foot, String text) {
        for (int i = 0; i < text.length(); i++) {
            foot.feed(text.charAt(i));
        }
    }

    private static void noRealm(RulerFoot foot) {
        foot.seed(5);
        foot.keep(1);
        foot.drop();
        foot.see(2, 48);
        feed(foot, "r30 2;n5;");
    }

    private static void ordinary(RulerFoot foot) {
        feed(foot, TEXT);
        foot.realm();
        foot.seed(99);
        foot.warp(6);
        foot.keep(0);
        foot.year(2);
        foot.make(1, 5);
        foot.hold(3);
        foot.hold(-4);
        foot.shorten(1, 4);
        foot.see(2, 48);
        foot.write(0, 60);
        foot.write(1, 41);
        feed(foot, "r30 2;n5;");
    }

    private static void lost(RulerFoot foot) {
        ordinary(foot);
        foot.lose(true);
    }

    private static void fullText(RulerFoot foot) {
        feed(foot, "r24 1;p60;");
        foot.realm();
        foot.make(1, 0);
        feed(foot, "r30 2;n5");
        for (int i = 9; i < 240; i++) {
            foot.feed(' ');
        }
        foot.feed(';');
    }

    private static void fullYears(RulerFoot foot) {
        feed(foot, "r240 1;p60;d5,0,9;");
        foot.realm();
        foot.keep(0);
        for (int i = 0; i < 150; i++) {
            foot.year(60);
        }
        foot.make(2, 0);
        foot.year(1);
        feed(foot, "r30 2;n5;");
    }

    private static void fullHands(RulerFoot foot) {
        feed(foot, "r24 1;p60;");
        foot.realm();
        foot.keep(0);
        for (int i = 0; i < 20; i++) {
            foot.make(i, 1);
        }
        for (int i = 0; i < 8; i++) {
            foot.hold(i);
        }
        for (int i = 0; i < 6; i++) {
            foot.see(2, 48);
        }
        for (int i = 0; i < 15; i++) {
            foot.write(0, 60);
        }
    }

    private static void fullHandsLost(RulerFoot foot) {
        fullHands(foot);
        foot.lose(true);
    }

    private static void faulty(RulerFoot foot) {
        ordinary(foot);
        feed(foot, "n5;");
        foot.realm();
        feed(foot, "r30 2;");
    }

    // ---- what is refused

    private static void refused(int want, String call, ToIntFunction<RulerFoot> act) {
        RulerFoot foot = new RulerFoot();
        steps.accept(foot);
        Due.due(call + " of " + state, want, act.applyAsInt(foot));
        Shown.unchanged(call + " of " + state, steps, act::applyAsInt);
    }

    private static void unknown(String call, ToIntFunction<RulerFoot> act) {
        refused(Due.UNKNOWN, call, act);
    }

    private static void outside(String call, ToIntFunction<RulerFoot> act) {
        refused(Due.OUTSIDE, call, act);
    }

    private static void not(String call, ToIntFunction<RulerFoot> act) {
        refused(Due.NOT, call, act);
    }

    private static void full(String call, ToIntFunction<RulerFoot> act) {
        refused(Due.FULL, call, act);
    }

    /** What no state makes good; UNKNOWN is ahead of OUTSIDE, OUTSIDE ahead of NOT and FULL. */
    private static void always() {
        outsideOfRealm();
        outsideOfDone();
        outsideOfTried();
        outsideOfSeen();
        unknownEver();
    }

    private static void outsideOfRealm() {
        for (int letter : new int[] {LEAST, -1, 256, MOST}) {
            outside("feed(" + letter + ")", foot -> foot.feed(letter));
        }
        for (int what : new int[] {LEAST, -1, 14, MOST}) {
            outside("told(" + what + ")", foot -> foot.told(what));
        }
    }

    private static void outsideOfDone() {
        for (int n : new int[] {LEAST, -1, 0, 61, MOST}) {
            outside("year(" + n + ")", foot -> foot.year(n));
            outside("drift(" + n + ")", foot -> foot.drift(n));
        }
        for (int n : new int[] {LEAST, -1, 21, MOST}) {
            outside("make(" + n + ", 0)", foot -> foot.make(n, 0));
        }
        for (int m : new int[] {LEAST, -1, 12, MOST}) {
            outside("make(0, " + m + ")", foot -> foot.make(0, m));
        }
        for (int v : new int[] {LEAST, -100, 100, MOST}) {
            outside("warp(" + v + ")", foot -> foot.warp(v));
        }
        for (int e : new int[] {LEAST, -21, 21, MOST}) {
            outside("hold(" + e + ")", foot -> foot.hold(e));
        }
    }

    private static void outsideOfTried() {
        for (int n : new int[] {LEAST, -1, 61, MOST}) {
            outside("longAt(" + n + ", 0)", foot -> foot.longAt(n, 0));
            outside("planeWhen(" + n + ", 0)", foot -> foot.planeWhen(n, 0));
            outside("foundBy(" + n + ", 0)", foot -> foot.foundBy(n, 0));
        }
        for (int what : new int[] {LEAST, -1, 2, MOST}) {
            outside("longAt(0, " + what + ")", foot -> foot.longAt(0, what));
            outside("planeWhen(0, " + what + ")", foot -> foot.planeWhen(0, what));
            outside("wasWarped(0, 24, " + what + ")", foot -> foot.wasWarped(0, 24, what));
            outside("tens(0, 0, " + what + ")", foot -> foot.tens(0, 0, what));
        }
        for (int x : new int[] {LEAST, 0, 241, MOST}) {
            outside("firstShort(" + x + ")", foot -> foot.firstShort(x));
            outside("wasWarped(0, " + x + ", 0)", foot -> foot.wasWarped(0, x, 0));
        }
        for (int x : new int[] {LEAST, -1, 1000, MOST}) {
            outside("had(" + x + ")", foot -> foot.had(x));
            outside("fold(" + x + ")", foot -> foot.fold(x));
            outside("tens(" + x + ", 0, 0)", foot -> foot.tens(x, 0, 0));
            outside("lean(" + x + ", 1, 1)", foot -> foot.lean(x, 1, 1));
        }
        for (int year : new int[] {LEAST, -1, 10000, MOST}) {
            outside("wasWarped(" + year + ", 24, 0)", foot -> foot.wasWarped(year, 24, 0));
        }
        for (int what : new int[] {LEAST, -1, 4, MOST}) {
            outside("hands(" + what + ")", foot -> foot.hands(what));
        }
        for (int m : new int[] {LEAST, -1, 12, MOST}) {
            outside("tens(0, " + m + ", 0)", foot -> foot.tens(0, m, 0));
        }
        for (int a : new int[] {LEAST, -1, 100, MOST}) {
            outside("lean(1, " + a + ", 1)", foot -> foot.lean(1, a, 1));
            outside("lean(1, 1, " + a + ")", foot -> foot.lean(1, 1, a));
        }
        for (int q : new int[] {LEAST, -1, 101, MOST}) {
            outside("foundBy(0, " + q + ")", foot -> foot.foundBy(0, q));
        }
    }

    private static void outsideOfSeen() {
        for (int n : new int[] {LEAST, -1, 0, 10, MOST}) {
            outside("see(" + n + ", 0)", foot -> foot.see(n, 0));
        }
        for (int x : new int[] {LEAST, -1, 10000, MOST}) {
            outside("see(1, " + x + ")", foot -> foot.see(1, x));
        }
        for (int what : new int[] {LEAST, -1, 3, MOST}) {
            outside("rods(" + what + ")", foot -> foot.rods(what));
        }
        for (int v : new int[] {LEAST, -2, -1}) {
            outside("seed(" + v + ")", foot -> foot.seed(v));
        }
    }

    /** Six OFFICES and PERSONS, twenty THINGS, eight HANDS, two IMAGES at most: what is beyond is never known. */
    private static void unknownEver() {
        for (int i : new int[] {LEAST, -1, 6, MOST}) {
            for (int what : new int[] {-1, 0, 3}) {
                unknown("office(" + i + ", " + what + ")", foot -> foot.office(i, what));
                unknown("person(" + i + ", " + what + ")", foot -> foot.person(i, what));
            }
            for (int n : new int[] {0, 1, 1000}) {
                unknown("shorten(" + i + ", " + n + ")", foot -> foot.shorten(i, n));
                unknown("write(" + i + ", " + n + ")", foot -> foot.write(i, n));
            }
            unknown("toShorten(" + i + ", 0)", foot -> foot.toShorten(i, 0));
            unknown("toShorten(0, " + i + ")", foot -> foot.toShorten(0, i));
        }
        for (int o : new int[] {LEAST, -2, 6, MOST}) {
            unknown("posts(" + o + ")", foot -> foot.posts(o));
        }
        for (int i : new int[] {LEAST, -1, 20, MOST}) {
            unknown("thing(" + i + ", 0)", foot -> foot.thing(i, 0));
            unknown("thing(" + i + ", 4)", foot -> foot.thing(i, 4));
        }
        for (int i : new int[] {LEAST, -1, 8, MOST}) {
            unknown("hand(" + i + ")", foot -> foot.hand(i));
        }
        for (int i : new int[] {LEAST, -1, 2, MOST}) {
            unknown("keep(" + i + ")", foot -> foot.keep(i));
            unknown("goBack(" + i + ")", foot -> foot.goBack(i));
        }
    }

    private static void withoutRealm() {
        not("warped()", RulerFoot::warped);
        not("year(1)", foot -> foot.year(1));
        not("year(60)", foot -> foot.year(60));
        not("make(0, 0)", foot -> foot.make(0, 0));
        not("warp(0)", foot -> foot.warp(0));
        not("plane()", RulerFoot::plane);
        not("lose(true)", foot -> foot.lose(true));
        not("lose(false)", foot -> foot.lose(false));
        not("hold(0)", foot -> foot.hold(0));
        not("drift(1)", foot -> foot.drift(1));
        not("drift(60)", foot -> foot.drift(60));
        not("longAt(0, 0)", foot -> foot.longAt(0, 0));
        not("longAt(60, 1)", foot -> foot.longAt(60, 1));
        not("firstShort(1)", foot -> foot.firstShort(1));
        not("planeWhen(0, 0)", foot -> foot.planeWhen(0, 0));
        not("planeWhen(60, 1)", foot -> foot.planeWhen(60, 1));
        not("had(0)", foot -> foot.had(0));
        not("parts(NONE)", foot -> foot.parts(Due.NONE));
        not("parts(0)", foot -> foot.parts(0));
        not("goBack(0)", foot -> foot.goBack(0));
        unknown("office(0, 0)", foot -> foot.office(0, 0));
        unknown("person(0, 0)", foot -> foot.person(0, 0));
        unknown("thing(0, 0)", foot -> foot.thing(0, 0));
        unknown("hand(0)", foot -> foot.hand(0));
        unknown("shorten(0, 1)", foot -> foot.shorten(0, 1));
        unknown("posts(0)", foot -> foot.posts(0));
        unknown("toShorten(0, 0)", foot -> foot.toShorten(0, 0));
        unknown("write(0, 1)", foot -> foot.write(0, 1));
    }

    private static void neitherUndoneNorKept() {
        not("undo()", RulerFoot::undo);
        not("goBack(1)", foot -> foot.goBack(1));
    }

    /** Two OFFICES, three PERSONS, one THING, two HANDS, IMAGE 0: the last that there is, the first that is not. */
    private static void besideWhatThereIs() {
        unknown("office(2, 0)", foot -> foot.office(2, 0));
        unknown("person(3, 0)", foot -> foot.person(3, 0));
        unknown("thing(1, 0)", foot -> foot.thing(1, 0));
        unknown("hand(2)", foot -> foot.hand(2));
        unknown("shorten(3, 1)", foot -> foot.shorten(3, 1));
        unknown("posts(2)", foot -> foot.posts(2));
        unknown("toShorten(3, 1)", foot -> foot.toShorten(3, 1));
        unknown("toShorten(2, 2)", foot -> foot.toShorten(2, 2));
        unknown("write(3, 1)", foot -> foot.write(3, 1));
        not("goBack(1)", foot -> foot.goBack(1));
        for (int what : new int[] {LEAST, -1, 3, MOST}) {
            outside("office(1, " + what + ")", foot -> foot.office(1, what));
        }
        for (int what : new int[] {LEAST, -1, 2, MOST}) {
            outside("person(2, " + what + ")", foot -> foot.person(2, what));
        }
        for (int what : new int[] {LEAST, -1, 4, MOST}) {
            outside("thing(0, " + what + ")", foot -> foot.thing(0, what));
        }
        for (int n : new int[] {LEAST, -1, 0, 1000, MOST}) {
            outside("shorten(2, " + n + ")", foot -> foot.shorten(2, n));
            outside("write(2, " + n + ")", foot -> foot.write(2, n));
        }
    }

    private static void withoutRod() {
        not("make(0, 0)", foot -> foot.make(0, 0));
        not("make(20, 11)", foot -> foot.make(20, 11));
        not("warp(0)", foot -> foot.warp(0));
        not("warp(-99)", foot -> foot.warp(-99));
        not("plane()", RulerFoot::plane);
        not("hold(0)", foot -> foot.hold(0));
        not("hold(-20)", foot -> foot.hold(-20));
    }

    private static void withFullText() {
        full("feed(0)", foot -> foot.feed(0));
        full("feed(32)", foot -> foot.feed(' '));
        full("feed(255)", foot -> foot.feed(255));
    }

    private static void withFullYears() {
        full("year(1)", foot -> foot.year(1));
        full("year(60)", foot -> foot.year(60));
        full("drift(1)", foot -> foot.drift(1));
        full("drift(60)", foot -> foot.drift(60));
    }

    private static void besideWhatIsFull() {
        full("hold(0)", foot -> foot.hold(0));
        full("hold(20)", foot -> foot.hold(20));
        full("see(1, 0)", foot -> foot.see(1, 0));
        full("see(9, 9999)", foot -> foot.see(9, 9999));
        full("write(0, 1)", foot -> foot.write(0, 1));
        full("write(0, 999)", foot -> foot.write(0, 999));
        outside("write(0, 0)", foot -> foot.write(0, 0));
        outside("write(0, 1000)", foot -> foot.write(0, 1000));
        unknown("write(1, 1)", foot -> foot.write(1, 1));
        outside("thing(19, 4)", foot -> foot.thing(19, 4));
    }
}
