import java.util.ArrayList;
import java.util.List;
import java.util.function.Consumer;

/**
 * All that calls show of an object: first by calls that only ask, then by undoing, by going back, by having the text
 * become the realm. Two objects that show the same cannot be told apart by later calls.
 */
final class Shown {
    private final RulerFoot foot;
    private final List<String> answers = new ArrayList<>();

    private Shown(RulerFoot foot) {
        this.foot = foot;
    }

    /** Behind the same steps, one object with these calls more and one without them show the same. */
    static void unchanged(String calls, Consumer<RulerFoot> steps, Consumer<RulerFoot> more) {
        RulerFoot one = new RulerFoot();
        steps.accept(one);
        more.accept(one);
        RulerFoot other = new RulerFoot();
        steps.accept(other);
        same(calls, one, other);
    }

    static void same(String what, RulerFoot one, RulerFoot other) {
        compare(what, new Shown(one).all(true), new Shown(other).all(true));
    }

    /** As a realm that was left by a text with a FAULT. */
    static void sameButFault(String what, RulerFoot one, RulerFoot other) {
        compare(what, new Shown(one).all(false), new Shown(other).all(false));
    }

    private static void compare(String what, List<String> got, List<String> want) {
        int place = 0;
        while (place < got.size() && place < want.size() && got.get(place).equals(want.get(place))) {
            place++;
        }
        boolean alike = got.size() == want.size() && place == got.size();
        Due.due(what + " changes nothing"
                + (alike ? "" : "; it shows " + at(got, place) + ", due is " + at(want, place)), 1, alike ? 1 : 0);
    }

    private static String at(List<String> list, int place) {
        return place < list.size() ? list.get(place) : "nothing";
    }

    private void add(String call, int answer) {
        answers.add(call + " = " + answer);
    }

    private List<String> all(boolean withFault) {
        standing();
        tried();
        seen();
        add("seed", foot.seed(7));
        for (int i = 0; i < 17; i++) {
            int left = foot.undo();
            add("undo", left);
            if (left >= 0) {
                change("undone " + i);
            }
        }
        for (int i = 0; i < 2; i++) {
            add("goBack " + i, foot.goBack(i));
            change("image " + i);
            add("seed of image " + i, foot.seed(7));
        }
        if (withFault) {
            add("fault", foot.fault());
        }
        add("realm", foot.realm());
        add("fault of the text", foot.fault());
        add("nick of the text", foot.nick(0));
        return answers;
    }

    private void standing() {
        for (int what = 0; what <= 13; what++) {
            add("told " + what, foot.told(what));
        }
        add("warped", foot.warped());
        for (int i = 0; i < foot.told(1); i++) {
            add("nick " + i, foot.nick(i));
        }
        for (int o = 0; o < 2; o++) {
            for (int what = 0; what < 3; what++) {
                add("office " + o + " " + what, foot.office(o, what));
            }
        }
        for (int p = 0; p < 4; p++) {
            add("person " + p, foot.person(p, 0));
        }
        add("person's measure", foot.person(0, 1));
        for (int i = foot.told(8) - 1; i >= 0; i--) {
            for (int what = 0; what < 4; what++) {
                add("thing " + i + " " + what, foot.thing(i, what));
            }
        }
        for (int i = foot.told(9) - 1; i >= 0; i--) {
            add("hand " + i, foot.hand(i));
        }
    }

    private void tried() {
        add("longAt 0", foot.longAt(60, 0));
        add("longAt 1", foot.longAt(13, 1));
        add("firstShort", foot.firstShort(2));
        add("planeWhen", foot.planeWhen(60, 0));
        add("had", foot.had(30));
        add("parts", foot.parts(RulerFoot.NONE));
        add("posts", foot.posts(RulerFoot.NONE));
        add("toShorten", foot.toShorten(0, 0));
        add("wasWarped", foot.wasWarped(0, 24, 1));
        add("alike", foot.alike(RulerFoot.NONE));
        for (int what = 0; what < 4; what++) {
            add("hands " + what, foot.hands(what));
        }
    }

    private void seen() {
        for (int what = 0; what < 3; what++) {
            add("rods " + what, foot.rods(what));
        }
        add("door", foot.door());
        add("judge", foot.judge());
    }

    /** What undoing and going back can change, in few calls: an object is used for 512 at most. */
    private void change(String when) {
        for (int what = 5; what <= 9; what++) {
            add("told " + what + " " + when, foot.told(what));
        }
        add("warped " + when, foot.warped());
        add("person " + when, foot.person(0, 0));
        add("thing " + when, foot.thing(0, 0));
        add("hand " + when, foot.hand(0));
    }
}
