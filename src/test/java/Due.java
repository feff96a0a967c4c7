/** What the tests share: it compares answers with those that are due, and ends the test. */
final class Due {
    static final int NONE = RulerFoot.NONE;
    static final int UNKNOWN = RulerFoot.UNKNOWN;
    static final int OUTSIDE = RulerFoot.OUTSIDE;
    static final int NOT = RulerFoot.NOT;
    static final int FULL = RulerFoot.FULL;

    private static int right = 0;
    private static int wrong = 0;

    private Due() {
    }

    static void due(String call, long want, long got) {
        if (got == want) {
            right++;
        } else {
            wrong++;
            System.out.println(call + " answered " + got + ", due is " + want);
        }
    }

    /** Feeds a text to an object and has it become the realm. */
    static int tell(RulerFoot foot, String text) {
        for (int i = 0; i < text.length(); i++) {
            due("feed at " + i + " of " + text, i + 1, foot.feed(text.charAt(i)));
        }
        return foot.realm();
    }

    /** A new object whose realm is this text, which has no fault. */
    static RulerFoot realmOf(String text) {
        RulerFoot foot = new RulerFoot();
        int answer = tell(foot, text);
        if (answer < 12) {
            due("realm() of " + text, 12, answer);
        }
        return foot;
    }

    static void end() {
        System.out.println(right + " answers as due, " + wrong + " not");
        if (wrong != 0 || right == 0) {
            System.exit(1);
        }
    }
}
