import java.util.Arrays;

/**
 * A realm that is governed by a foot-long rod. README.md says how to use it; the numbered promises that it keeps
 * are those of the project's document.
 */
public final class RulerFoot {
    public static final int NONE = -1, UNKNOWN = -1000000001, OUTSIDE = -1000000002, NOT = -1000000003, FULL = -1000000004;

    private static final int LETTERS_MOST = 240;
    private static final int NICKS_MOST = 5;
    private static final int OFFICES_MOST = 6;
    private static final int PERSONS_MOST = 6;
    private static final int SWAYS_MOST = 12;
    private static final int THINGS_MOST = 20;
    private static final int HANDS_MOST = 8;
    private static final int SEEN_MOST = 6;
    private static final int BOOK_MOST = 15;
    private static final int UNDONE_MOST = 16;
    private static final int IMAGES = 2;

    private static final int ROD_LONGEST = 240;
    private static final int BEND_MOST = 99;
    private static final int TALL_MOST = 999;
    private static final int OFF_MOST = 999;
    private static final int TIMES_MOST = 20;
    private static final int YEARS_A_CALL = 60;
    private static final int YEARS_BEFORE_FULL = 9000;
    private static final int YEARS_TO_SHORT = 200;
    private static final int BILLION = 1000000000;

    /** Is added to what may be below 0, so that no such answer looks like NONE. */
    private static final int LIFT = 1000;
    /** What a check answers where nothing is refused. */
    private static final int ALLOWED = 0;

    private final int[] text;
    private int letters;
    private int faultPlace;
    private final Reader reader;
    private Telling law;
    private Telling draft;
    private final Standing now;
    private final Rod trial;
    private final Past past;
    private final Standing[] images;
    private final boolean[] imageKept;
    private final int[] imageSeeds;
    private int seedNow;
    private final Laying laying;
    private final Posting posting;
    private final Sight sight;
    private final Book book;

    public RulerFoot() {
        text = new int[LETTERS_MOST];
        faultPlace = NONE;
        reader = new Reader();
        law = new Telling();
        draft = new Telling();
        now = new Standing();
        trial = new Rod();
        past = new Past();
        images = new Standing[IMAGES];
        for (int i = 0; i < IMAGES; i++) {
            images[i] = new Standing();
        }
        imageKept = new boolean[IMAGES];
        imageSeeds = new int[IMAGES];
        laying = new Laying();
        posting = new Posting();
        sight = new Sight();
        book = new Book();
    }

    // ---- the realm

    public int feed(int letter) {
        if (!within(letter, 0, 255)) {
            return OUTSIDE;
        }
        if (letters < 0 || letters >= LETTERS_MOST) {
            return FULL;
        }
        text[letters] = letter;
        letters++;
        return letters;
    }

    public int realm() {
        reader.readText(text, letters, draft);
        letters = 0;
        faultPlace = reader.faultPlace;
        if (reader.faultKind != 0) {
            return -10 - reader.faultKind;
        }
        Telling replaced = law;
        law = draft;
        draft = replaced;
        now.begin(law);
        past.forget();
        for (int i = 0; i < IMAGES; i++) {
            imageKept[i] = false;
        }
        sight.count = 0;
        book.count = 0;
        return law.length;
    }

    public int fault() {
        return faultPlace;
    }

    public int told(int what) {
        switch (what) {
            case 0: return law.length;
            case 1: return law.nickCount;
            case 2: return law.officeCount;
            case 3: return law.personCount;
            case 4: return letters;
            case 5: return now.rod.years;
            case 6: return now.rod.length;
            case 7: return now.rod.away ? 1 : 0;
            case 8: return now.things.count;
            case 9: return now.palms.count;
            case 10: return now.things.longest();
            case 11: return sight.count;
            case 12: return book.count;
            case 13: return past.count;
            default: return OUTSIDE;
        }
    }

    public int warped() {
        return noRealm() ? NOT : now.rod.bend + LIFT;
    }

    public int nick(int i) {
        return within(i, 0, law.nickCount - 1) ? law.nicks[i] : NONE;
    }

    public int office(int o, int what) {
        if (!isOffice(o)) {
            return UNKNOWN;
        }
        switch (what) {
            case 0: return law.officeLow[o];
            case 1: return law.officeHigh[o];
            case 2: return now.fitting(law, o);
            default: return OUTSIDE;
        }
    }

    public int person(int p, int what) {
        if (!isPerson(p)) {
            return UNKNOWN;
        }
        switch (what) {
            case 0: return now.tall[p];
            case 1: return now.rod.tenthsOf(now.tall[p]);
            default: return OUTSIDE;
        }
    }

    public int thing(int i, int what) {
        if (!within(i, 0, now.things.count - 1)) {
            return UNKNOWN;
        }
        switch (what) {
            case 0: return now.things.hairs[i] + LIFT;
            case 1: return now.things.feet[i];
            case 2: return now.things.twelfths[i];
            case 3: return now.things.madeIn[i];
            default: return OUTSIDE;
        }
    }

    public int hand(int i) {
        return within(i, 0, now.palms.count - 1) ? now.palms.wide[i] : UNKNOWN;
    }

    // ---- what is done

    public int year(int n) {
        int refusal = refusalOfYears(n);
        if (refusal != ALLOWED) {
            return refusal;
        }
        past.remember(now);
        for (int i = 0; i < n; i++) {
            now.rod.passYear(law);
        }
        return now.rod.years;
    }

    public int make(int n, int m) {
        if (!within(n, 0, 20) || !within(m, 0, 11)) {
            return OUTSIDE;
        }
        if (noRodAtHand()) {
            return NOT;
        }
        past.remember(now);
        return now.produce(n, m) + LIFT;
    }

    public int warp(int v) {
        if (!within(v, -BEND_MOST, BEND_MOST)) {
            return OUTSIDE;
        }
        if (noRodAtHand()) {
            return NOT;
        }
        past.remember(now);
        int was = now.rod.bend;
        now.rod.bend = v;
        return was + LIFT;
    }

    public int plane() {
        if (noRodAtHand()) {
            return NOT;
        }
        past.remember(now);
        now.rod.length = now.rod.lengthIfPlaned();
        now.rod.bend = 0;
        return now.rod.length;
    }

    public int lose(boolean is) {
        if (noRealm()) {
            return NOT;
        }
        past.remember(now);
        int was = now.rod.away ? 1 : 0;
        now.rod.away = is;
        return was;
    }

    public int hold(int e) {
        if (!within(e, -20, 20)) {
            return OUTSIDE;
        }
        if (noRodAtHand()) {
            return NOT;
        }
        if (now.palms.count >= HANDS_MOST) {
            return FULL;
        }
        past.remember(now);
        now.palms.add(Math.max(0, now.rod.length + e));
        return now.palms.count;
    }

    public int drop() {
        past.remember(now);
        int held = now.palms.count;
        now.palms.count = 0;
        return held;
    }

    public int shorten(int p, int n) {
        if (!isPerson(p)) {
            return UNKNOWN;
        }
        if (!within(n, 1, TALL_MOST)) {
            return OUTSIDE;
        }
        past.remember(now);
        now.tall[p] = Math.max(1, now.tall[p] - n);
        return now.tall[p];
    }

    public int drift(int n) {
        int refusal = refusalOfYears(n);
        if (refusal != ALLOWED) {
            return refusal;
        }
        past.remember(now);
        for (int i = 0; i < n; i++) {
            meetChance();
            now.rod.passYear(law);
        }
        return now.things.count;
    }

    public int undo() {
        if (past.count < 1) {
            return NOT;
        }
        past.bringBack(now);
        return past.count;
    }

    // ---- tried

    public int longAt(int n, int what) {
        int refusal = refusalOfTrial(n, what);
        if (refusal != ALLOWED) {
            return refusal;
        }
        beginTrial();
        for (int i = 0; i < n; i++) {
            trial.passYear(law);
        }
        return what == 0 ? trial.length : trial.bend + LIFT;
    }

    public int firstShort(int x) {
        if (!within(x, 1, ROD_LONGEST)) {
            return OUTSIDE;
        }
        if (noRealm()) {
            return NOT;
        }
        beginTrial();
        for (int behind = 0; behind <= YEARS_TO_SHORT; behind++) {
            if (trial.length < x) {
                return behind;
            }
            trial.passYear(law);
        }
        return NONE;
    }

    public int planeWhen(int n, int what) {
        int refusal = refusalOfTrial(n, what);
        if (refusal != ALLOWED) {
            return refusal;
        }
        beginTrial();
        int best = 0;
        int bestLength = trial.lengthIfPlaned();
        for (int behind = 1; behind <= n; behind++) {
            trial.passYear(law);
            if (trial.lengthIfPlaned() > bestLength) {
                best = behind;
                bestLength = trial.lengthIfPlaned();
            }
        }
        return what == 0 ? best : bestLength;
    }

    public int had(int x) {
        if (!within(x, 0, OFF_MOST)) {
            return OUTSIDE;
        }
        if (noRealm()) {
            return NOT;
        }
        laying.takeLengths(law, now.rod.length);
        laying.layOn(TIMES_MOST);
        return laying.times[x];
    }

    public int parts(int i) {
        if (noRealm()) {
            return NOT;
        }
        laying.takeLengths(law, now.rod.length);
        laying.layOn(2);
        int found = 0;
        for (int x = 1; x <= now.rod.length && x <= OFF_MOST; x++) {
            if (laying.times[x] != NONE) {
                if (found == i) {
                    return x;
                }
                found++;
            }
        }
        return i == NONE ? found : NONE;
    }

    public int fold(int x) {
        if (!within(x, 0, OFF_MOST)) {
            return OUTSIDE;
        }
        return x % 2 == 0 ? x / 2 : NONE;
    }

    public int posts(int o) {
        if (o != NONE && !isOffice(o)) {
            return UNKNOWN;
        }
        posting.weigh(law, now);
        return o == NONE ? posting.mostFrom(0, 0) : posting.holderOf(o);
    }

    public int toShorten(int p, int o) {
        if (!isPerson(p) || !isOffice(o)) {
            return UNKNOWN;
        }
        int tall = now.tall[p];
        for (int by = 0; by < tall && by < TALL_MOST; by++) {
            if (law.asksFor(o, now.rod.tenthsOf(tall - by))) {
                return by;
            }
        }
        return NONE;
    }

    public int wasWarped(int year, int l, int what) {
        if (!within(year, 0, 9999) || !within(l, 1, ROD_LONGEST) || !within(what, 0, 1)) {
            return OUTSIDE;
        }
        int low = -BEND_MOST;
        int high = BEND_MOST;
        for (int i = 0; i < now.things.count; i++) {
            if (now.things.madeIn[i] == year) {
                int bend = now.things.bendIfLong(i, l);
                low = Math.max(low, bend);
                high = Math.min(high, bend);
            }
        }
        if (what == 0) {
            return Math.max(0, high - low + 1);
        }
        return low <= high ? low + LIFT : NONE;
    }

    public int alike(int i) {
        return now.things.pairOfLike(i);
    }

    public int hands(int what) {
        switch (what) {
            case 0: return now.palms.mean();
            case 1: return now.palms.middle();
            case 2: return now.palms.farthestFrom(now.palms.mean());
            case 3: return now.palms.nearestTo(now.rod.length);
            default: return OUTSIDE;
        }
    }

    public int tens(int n, int m, int what) {
        if (!within(n, 0, 999) || !within(m, 0, 11) || !within(what, 0, 1)) {
            return OUTSIDE;
        }
        int tenfold = 10 * (12 * n + m);
        return what == 0 ? tenfold / 12 : tenfold % 12;
    }

    public int lean(int d, int a, int b) {
        if (!within(d, 0, 999) || !within(a, 0, 99) || !within(b, 0, 99)) {
            return OUTSIDE;
        }
        if (d == 0) {
            return 0;
        }
        int nearer = a + b;
        return nearer < 1 ? NONE : (d + nearer - 1) / nearer;
    }

    public int foundBy(int n, int q) {
        if (!within(n, 0, YEARS_A_CALL) || !within(q, 0, 100)) {
            return OUTSIDE;
        }
        long odds = BILLION;
        for (int i = 0; i < n; i++) {
            odds = odds * (100 - q) / 100;
        }
        return (int) odds;
    }

    // ---- what is seen

    public int see(int n, int x) {
        if (!within(n, 1, 9) || !within(x, 0, 9999)) {
            return OUTSIDE;
        }
        if (sight.count >= SEEN_MOST) {
            return FULL;
        }
        sight.add(n, x);
        return sight.count;
    }

    public int rods(int what) {
        if (!within(what, 0, 2)) {
            return OUTSIDE;
        }
        int pairs = sight.gather();
        if (what == 0) {
            return pairs;
        }
        int least = sight.leastLength();
        if (least == NONE) {
            return NONE;
        }
        return what == 1 ? least : sight.low[least] + LIFT;
    }

    public int door() {
        return sight.bestDoor();
    }

    public int write(int p, int tall) {
        if (!isPerson(p)) {
            return UNKNOWN;
        }
        if (!within(tall, 1, TALL_MOST)) {
            return OUTSIDE;
        }
        if (book.count >= BOOK_MOST) {
            return FULL;
        }
        book.add(p, tall);
        return book.count;
    }

    public int tear() {
        int had = sight.count + book.count;
        sight.count = 0;
        book.count = 0;
        return had;
    }

    public int judge() {
        return book.firstWrong(now);
    }

    // ---- draws, images

    public int seed(int v) {
        if (v < 0) {
            return OUTSIDE;
        }
        int was = seedNow;
        seedNow = v;
        return was;
    }

    public int keep(int i) {
        if (!within(i, 0, IMAGES - 1)) {
            return UNKNOWN;
        }
        images[i].copyFrom(now);
        imageSeeds[i] = seedNow;
        imageKept[i] = true;
        past.forget();
        return 1;
    }

    public int goBack(int i) {
        if (!within(i, 0, IMAGES - 1)) {
            return UNKNOWN;
        }
        if (!imageKept[i]) {
            return NOT;
        }
        now.copyFrom(images[i]);
        seedNow = imageSeeds[i];
        past.forget();
        return 1;
    }

    // ---- what the calls share

    private static boolean within(int value, int least, int most) {
        return value >= least && value <= most;
    }

    private boolean noRealm() {
        return law.length < 1;
    }

    private boolean noRodAtHand() {
        return noRealm() || now.rod.away;
    }

    private boolean isOffice(int o) {
        return within(o, 0, law.officeCount - 1);
    }

    private boolean isPerson(int p) {
        return within(p, 0, law.personCount - 1);
    }

    private int refusalOfYears(int n) {
        if (!within(n, 1, YEARS_A_CALL)) {
            return OUTSIDE;
        }
        if (noRealm()) {
            return NOT;
        }
        return now.rod.years > YEARS_BEFORE_FULL ? FULL : ALLOWED;
    }

    private int refusalOfTrial(int n, int what) {
        if (!within(n, 0, YEARS_A_CALL) || !within(what, 0, 1)) {
            return OUTSIDE;
        }
        return noRealm() ? NOT : ALLOWED;
    }

    private int draw(int n) {
        seedNow = (int) ((seedNow * 1103515245L + 12345L) & 0x7fffffffL);
        return n < 1 ? 0 : seedNow / 65536 % n;
    }

    private void meetChance() {
        switch (draw(8)) {
            case 0:
                now.rod.away = true;
                break;
            case 1:
                now.rod.away = false;
                break;
            case 2:
                bendByDraw();
                break;
            case 3:
                produceByDraw();
                break;
            default:
                break;
        }
    }

    // Both draw ahead of the look at the rod: the seed moves on for a lost rod too.
    private void bendByDraw() {
        int bend = draw(21) - 10;
        if (!now.rod.away) {
            now.rod.bend = bend;
        }
    }

    private void produceByDraw() {
        int feet = draw(10);
        if (!now.rod.away) {
            now.produce(feet, 0);
        }
    }

    private void beginTrial() {
        trial.copyFrom(now.rod);
        trial.away = false;
    }

    /** What a text without a fault has told; a length of 0 is no realm. */
    private static final class Telling {
        int length;
        int wear;
        final int[] nicks;
        int nickCount;
        final int[] officeLow;
        final int[] officeHigh;
        int officeCount;
        final int[] tall;
        int personCount;
        final int[] sways;
        int swayCount;

        Telling() {
            nicks = new int[NICKS_MOST];
            officeLow = new int[OFFICES_MOST];
            officeHigh = new int[OFFICES_MOST];
            tall = new int[PERSONS_MOST];
            sways = new int[SWAYS_MOST];
        }

        void clear() {
            length = 0;
            wear = 0;
            nickCount = 0;
            officeCount = 0;
            personCount = 0;
            swayCount = 0;
        }

        boolean hasNick(int x) {
            for (int i = 0; i < nickCount; i++) {
                if (nicks[i] == x) {
                    return true;
                }
            }
            return false;
        }

        int bendIn(int year) {
            return swayCount < 1 || year < 0 ? 0 : sways[year % swayCount] - 4;
        }

        boolean asksFor(int o, int tenths) {
            return tenths >= officeLow[o] && tenths <= officeHigh[o];
        }
    }

    /** Reads a text from its front and stops at the first fault, so that of several the first is the one told. */
    private static final class Reader {
        int faultKind;
        int faultPlace;
        private int[] letters;
        private int size;
        private int at;
        private int numberPlace;

        Reader() {
            letters = new int[0];
            faultPlace = NONE;
        }

        void readText(int[] from, int count, Telling into) {
            letters = from;
            size = Math.min(count, from.length);
            at = 0;
            faultKind = 0;
            faultPlace = NONE;
            into.clear();
            skipBlanks();
            for (int clause = 0; clause < LETTERS_MOST && at < size && faultKind == 0; clause++) {
                readClause(into);
                skipBlanks();
            }
        }

        private void readClause(Telling into) {
            int word = letters[at];
            if (word != 'r' && into.length == 0) {
                blame(1, at);
                return;
            }
            switch (word) {
                case 'r':
                    readRod(into);
                    break;
                case 'n':
                    readNick(into);
                    break;
                case 'o':
                    readOffice(into);
                    break;
                case 'p':
                    readPerson(into);
                    break;
                case 'd':
                    readSways(into);
                    break;
                default:
                    blame(1, at);
                    break;
            }
        }

        private void readRod(Telling into) {
            if (!takeWord(into.length == 0)) {
                return;
            }
            int length = takeNumber(12, ROD_LONGEST);
            int wear = takeNumber(0, 9);
            takeEnd();
            if (faultKind == 0) {
                into.length = length;
                into.wear = wear;
            }
        }

        private void readNick(Telling into) {
            if (!takeWord(into.nickCount < NICKS_MOST)) {
                return;
            }
            int x = takeNumber(1, ROD_LONGEST - 1);
            if (into.hasNick(x)) {
                blame(4, numberPlace);
            }
            takeEnd();
            if (faultKind == 0) {
                into.nicks[into.nickCount] = x;
                into.nickCount++;
            }
        }

        private void readOffice(Telling into) {
            if (!takeWord(into.officeCount < OFFICES_MOST)) {
                return;
            }
            int low = takeNumber(1, 99);
            int high = takeNumber(low, 99);
            takeEnd();
            if (faultKind == 0) {
                into.officeLow[into.officeCount] = low;
                into.officeHigh[into.officeCount] = high;
                into.officeCount++;
            }
        }

        private void readPerson(Telling into) {
            if (!takeWord(into.personCount < PERSONS_MOST)) {
                return;
            }
            int tall = takeNumber(1, TALL_MOST);
            takeEnd();
            if (faultKind == 0) {
                into.tall[into.personCount] = tall;
                into.personCount++;
            }
        }

        private void readSways(Telling into) {
            if (!takeWord(into.swayCount == 0)) {
                return;
            }
            boolean more = true;
            for (int i = 0; i < SWAYS_MOST && more; i++) {
                into.sways[i] = takeNumber(0, 9);
                into.swayCount = i + 1;
                // The comma of one too many is left standing, so that the clause's end blames it.
                more = i + 1 < SWAYS_MOST && faultKind == 0 && takeSign(',');
            }
            takeEnd();
        }

        private boolean takeWord(boolean mayStand) {
            if (!mayStand) {
                blame(3, at);
                return false;
            }
            at++;
            return true;
        }

        private int takeNumber(int least, int most) {
            skipBlanks();
            numberPlace = at;
            int value = 0;
            while (at < size && letters[at] >= '0' && letters[at] <= '9') {
                // Held below what an int can hold; the count of figures judges longer ones.
                value = Math.min(value * 10 + letters[at] - '0', 9999);
                at++;
            }
            int figures = at - numberPlace;
            if (figures == 0) {
                blame(1, at);
            } else if (figures > 3 || !within(value, least, most)) {
                blame(2, numberPlace);
            }
            return value;
        }

        private boolean takeSign(int sign) {
            skipBlanks();
            if (at >= size || letters[at] != sign) {
                return false;
            }
            at++;
            return true;
        }

        private void takeEnd() {
            if (!takeSign(';')) {
                blame(1, at);
            }
        }

        private void skipBlanks() {
            while (at < size && letters[at] == ' ') {
                at++;
            }
        }

        private void blame(int kind, int place) {
            if (faultKind == 0) {
                faultKind = kind;
                faultPlace = place;
            }
        }
    }

    /** The rod as it is, and the years that have passed. */
    private static final class Rod {
        int length;
        int bend;
        boolean away;
        int years;

        Rod() {
        }

        void copyFrom(Rod other) {
            length = other.length;
            bend = other.bend;
            away = other.away;
            years = other.years;
        }

        void begin(int hairs) {
            length = hairs;
            bend = 0;
            away = false;
            years = 0;
        }

        void passYear(Telling law) {
            if (!away) {
                bend = Math.max(-BEND_MOST, Math.min(BEND_MOST, bend + law.bendIn(years)));
                length = Math.max(1, length - law.wear);
            }
            years++;
        }

        int lengthIfPlaned() {
            return Math.max(1, length - Math.abs(bend));
        }

        int tenthsOf(int hairs) {
            return length < 1 ? 0 : 10 * hairs / length;
        }
    }

    /** What was made and is kept, the earliest first. */
    private static final class Things {
        final int[] hairs;
        final int[] feet;
        final int[] twelfths;
        final int[] madeIn;
        int count;

        Things() {
            hairs = new int[THINGS_MOST];
            feet = new int[THINGS_MOST];
            twelfths = new int[THINGS_MOST];
            madeIn = new int[THINGS_MOST];
        }

        void copyFrom(Things other) {
            count = other.count;
            System.arraycopy(other.hairs, 0, hairs, 0, THINGS_MOST);
            System.arraycopy(other.feet, 0, feet, 0, THINGS_MOST);
            System.arraycopy(other.twelfths, 0, twelfths, 0, THINGS_MOST);
            System.arraycopy(other.madeIn, 0, madeIn, 0, THINGS_MOST);
        }

        void add(int length, int n, int m, int year) {
            if (count >= THINGS_MOST) {
                loseEarliest();
            }
            hairs[count] = length;
            feet[count] = n;
            twelfths[count] = m;
            madeIn[count] = year;
            count++;
        }

        private void loseEarliest() {
            System.arraycopy(hairs, 1, hairs, 0, THINGS_MOST - 1);
            System.arraycopy(feet, 1, feet, 0, THINGS_MOST - 1);
            System.arraycopy(twelfths, 1, twelfths, 0, THINGS_MOST - 1);
            System.arraycopy(madeIn, 1, madeIn, 0, THINGS_MOST - 1);
            count = THINGS_MOST - 1;
        }

        static int span(int length, int n, int m) {
            return length * (12 * n + m) / 12;
        }

        int bendIfLong(int i, int length) {
            return hairs[i] - span(length, feet[i], twelfths[i]);
        }

        int longest() {
            int best = NONE;
            for (int i = 0; i < count; i++) {
                if (best == NONE || hairs[i] > hairs[best]) {
                    best = i;
                }
            }
            return best;
        }

        int pairOfLike(int wanted) {
            int found = 0;
            for (int a = 0; a < count; a++) {
                for (int b = a + 1; b < count; b++) {
                    if (hairs[a] == hairs[b]) {
                        if (found == wanted) {
                            return 100 * a + b;
                        }
                        found++;
                    }
                }
            }
            return wanted == NONE ? found : NONE;
        }
    }

    /** The hands that are held, by their widths. */
    private static final class Hands {
        final int[] wide;
        int count;

        Hands() {
            wide = new int[HANDS_MOST];
        }

        void copyFrom(Hands other) {
            count = other.count;
            System.arraycopy(other.wide, 0, wide, 0, HANDS_MOST);
        }

        void add(int width) {
            if (count < HANDS_MOST) {
                wide[count] = width;
                count++;
            }
        }

        int mean() {
            int sum = 0;
            for (int i = 0; i < count; i++) {
                sum += wide[i];
            }
            return count < 1 ? NONE : sum / count;
        }

        int middle() {
            int wanted = (count - 1) / 2;
            for (int i = 0; i < count; i++) {
                int less = 0;
                int notMore = 0;
                for (int j = 0; j < count; j++) {
                    less += wide[j] < wide[i] ? 1 : 0;
                    notMore += wide[j] <= wide[i] ? 1 : 0;
                }
                if (less <= wanted && wanted < notMore) {
                    return wide[i];
                }
            }
            return NONE;
        }

        int farthestFrom(int width) {
            int best = NONE;
            for (int i = 0; i < count; i++) {
                if (best == NONE || Math.abs(wide[i] - width) > Math.abs(wide[best] - width)) {
                    best = i;
                }
            }
            return best;
        }

        int nearestTo(int width) {
            int best = NONE;
            for (int i = 0; i < count; i++) {
                if (best == NONE || Math.abs(wide[i] - width) < Math.abs(wide[best] - width)) {
                    best = i;
                }
            }
            return best;
        }
    }

    /** All that is done can change and undo brings back: the rod, the things, the hands, how tall persons are. */
    private static final class Standing {
        final Rod rod;
        final Things things;
        final Hands palms;
        final int[] tall;

        Standing() {
            rod = new Rod();
            things = new Things();
            palms = new Hands();
            tall = new int[PERSONS_MOST];
        }

        void copyFrom(Standing other) {
            rod.copyFrom(other.rod);
            things.copyFrom(other.things);
            palms.copyFrom(other.palms);
            System.arraycopy(other.tall, 0, tall, 0, PERSONS_MOST);
        }

        void begin(Telling law) {
            rod.begin(law.length);
            things.count = 0;
            palms.count = 0;
            System.arraycopy(law.tall, 0, tall, 0, PERSONS_MOST);
        }

        int produce(int n, int m) {
            int hairs = Things.span(rod.length, n, m) + rod.bend;
            things.add(hairs, n, m, rod.years);
            return hairs;
        }

        int fitting(Telling law, int o) {
            int set = 0;
            for (int p = 0; p < law.personCount; p++) {
                if (law.asksFor(o, rod.tenthsOf(tall[p]))) {
                    set |= 1 << p;
                }
            }
            return set;
        }
    }

    /** What can be undone: a ring of standings in which the oldest gives way. */
    private static final class Past {
        private final Standing[] ring;
        private int next;
        int count;

        Past() {
            ring = new Standing[UNDONE_MOST];
            for (int i = 0; i < UNDONE_MOST; i++) {
                ring[i] = new Standing();
            }
        }

        void remember(Standing now) {
            ring[next].copyFrom(now);
            next = next + 1 < UNDONE_MOST ? next + 1 : 0;
            count = Math.min(UNDONE_MOST, count + 1);
        }

        void bringBack(Standing now) {
            if (count > 0) {
                next = next > 0 ? next - 1 : UNDONE_MOST - 1;
                now.copyFrom(ring[next]);
                count--;
            }
        }

        void forget() {
            count = 0;
        }
    }

    /** Which places from 0 to 999 are reached by laying the rod's lengths on and back, and in how few times. */
    private static final class Laying {
        final int[] times;
        private final int[] queue;
        private int queued;
        private final int[] lengths;
        private int lengthCount;

        Laying() {
            times = new int[OFF_MOST + 1];
            queue = new int[OFF_MOST + 1];
            lengths = new int[NICKS_MOST + 1];
        }

        void takeLengths(Telling law, int whole) {
            lengths[0] = whole;
            lengthCount = 1;
            for (int i = 0; i < law.nickCount; i++) {
                if (law.nicks[i] < whole) {
                    lengths[lengthCount] = law.nicks[i];
                    lengthCount++;
                }
            }
        }

        void layOn(int timesMost) {
            Arrays.fill(times, NONE);
            queued = 0;
            reach(0, 0);
            for (int head = 0; head < queued; head++) {
                int place = queue[head];
                if (times[place] < timesMost) {
                    layFrom(place);
                }
            }
        }

        private void layFrom(int place) {
            for (int i = 0; i < lengthCount; i++) {
                reach(place + lengths[i], times[place] + 1);
                reach(place - lengths[i], times[place] + 1);
            }
        }

        private void reach(int place, int count) {
            if (within(place, 0, OFF_MOST) && times[place] == NONE && queued <= OFF_MOST) {
                times[place] = count;
                queue[queued] = place;
                queued++;
            }
        }
    }

    /** The most offices that can be filled: for each office, and each set of persons taken, from that office on. */
    private static final class Posting {
        private static final int SETS = 1 << PERSONS_MOST;
        private final int[] fits;
        private final int[] most;
        private int offices;

        Posting() {
            fits = new int[OFFICES_MOST];
            most = new int[(OFFICES_MOST + 1) * SETS];
        }

        void weigh(Telling law, Standing now) {
            offices = law.officeCount;
            Arrays.fill(most, 0);
            for (int o = offices - 1; o >= 0; o--) {
                fits[o] = now.fitting(law, o);
                for (int taken = 0; taken < SETS; taken++) {
                    int best = firstBest(o, taken);
                    most[o * SETS + taken] = filledWith(o, taken, best);
                }
            }
        }

        int mostFrom(int o, int taken) {
            return most[o * SETS + taken];
        }

        int holderOf(int wanted) {
            int taken = 0;
            for (int o = 0; o < wanted && o < offices; o++) {
                int p = firstBest(o, taken);
                taken |= p == NONE ? 0 : 1 << p;
            }
            return firstBest(wanted, taken);
        }

        /**
         * The least person by whom the most offices from o on are filled. To fill an office costs at most one later
         * office, so none is right only where nobody is free for it.
         */
        private int firstBest(int o, int taken) {
            int free = fits[o] & ~taken;
            int best = NONE;
            for (int p = 0; p < PERSONS_MOST; p++) {
                boolean isFree = (free >> p & 1) == 1;
                if (isFree && (best == NONE || filledWith(o, taken, p) > filledWith(o, taken, best))) {
                    best = p;
                }
            }
            return best;
        }

        private int filledWith(int o, int taken, int p) {
            return p == NONE ? mostFrom(o + 1, taken) : 1 + mostFrom(o + 1, taken | 1 << p);
        }
    }

    /** The doors that were seen, and the rods (their length, their warp) by which all of these are so. */
    private static final class Sight {
        private static final int WARP_MOST = 9;
        private static final int FEET_MOST = 9;
        private final int[] feet;
        private final int[] hairs;
        int count;
        /** By length: the least and the greatest warp that fits; the least is above the greatest where none does. */
        final int[] low;
        private final int[] high;
        private final int[] alikeAt;

        Sight() {
            feet = new int[SEEN_MOST];
            hairs = new int[SEEN_MOST];
            low = new int[ROD_LONGEST + 1];
            high = new int[ROD_LONGEST + 1];
            alikeAt = new int[ROD_LONGEST * FEET_MOST + 2 * WARP_MOST + 1];
        }

        void add(int n, int x) {
            if (count < SEEN_MOST) {
                feet[count] = n;
                hairs[count] = x;
                count++;
            }
        }

        int gather() {
            int pairs = 0;
            for (int length = 1; length <= ROD_LONGEST; length++) {
                low[length] = -WARP_MOST;
                high[length] = WARP_MOST;
                for (int i = 0; i < count; i++) {
                    int warp = hairs[i] - length * feet[i];
                    low[length] = Math.max(low[length], warp);
                    high[length] = Math.min(high[length], warp);
                }
                pairs += Math.max(0, high[length] - low[length] + 1);
            }
            return pairs;
        }

        int leastLength() {
            for (int length = 1; length <= ROD_LONGEST; length++) {
                if (low[length] <= high[length]) {
                    return length;
                }
            }
            return NONE;
        }

        int bestDoor() {
            int leastPart = gather();
            int best = NONE;
            for (int n = 1; n <= FEET_MOST; n++) {
                int part = greatestPart(n);
                if (part < leastPart) {
                    leastPart = part;
                    best = n;
                }
            }
            return best;
        }

        private int greatestPart(int n) {
            Arrays.fill(alikeAt, 0);
            int greatest = 0;
            for (int length = 1; length <= ROD_LONGEST; length++) {
                for (int warp = low[length]; warp <= high[length]; warp++) {
                    int width = length * n + warp + WARP_MOST;
                    alikeAt[width]++;
                    greatest = Math.max(greatest, alikeAt[width]);
                }
            }
            return greatest;
        }
    }

    /** What was written of how tall persons are. */
    private static final class Book {
        private final int[] persons;
        private final int[] tall;
        int count;

        Book() {
            persons = new int[BOOK_MOST];
            tall = new int[BOOK_MOST];
        }

        void add(int p, int hairs) {
            if (count < BOOK_MOST) {
                persons[count] = p;
                tall[count] = hairs;
                count++;
            }
        }

        int firstWrong(Standing now) {
            for (int i = 0; i < count; i++) {
                if (now.tall[persons[i]] != tall[i]) {
                    return i;
                }
            }
            return NONE;
        }
    }
}
