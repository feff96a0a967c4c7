import java.util.ArrayDeque;
import java.util.ArrayList;
import java.util.HashMap;
import java.util.List;
import java.util.Map;
import java.util.TreeMap;
import java.util.TreeSet;

/**
 * The document once more, as slowly and plainly as can be: what RandomRunsTest compares the class with. It shares no
 * code with the class, tries all there is where the class reckons, and bears the names of the document's calls.
 */
public final class PlainRuler {
    private static final int NONE = -1;
    private static final int UNKNOWN = -1000000001;
    private static final int OUTSIDE = -1000000002;
    private static final int NOT = -1000000003;
    private static final int FULL = -1000000004;

    private record Office(int a, int b) { }

    private record Thing(int hairs, int n, int m, int year) { }

    private record Seen(int n, int x) { }

    private record Entry(int p, int tall) { }

    private record Pair(int l, int v) { }

    private record Law(int l, int w, List<Integer> nicks, List<Office> offices, List<Integer> persons,
            List<Integer> sways) { }

    private record State(int length, int bend, boolean lost, int years, List<Thing> things, List<Integer> hands,
            List<Integer> tall) { }

    private record Image(State state, long seed) { }

    private record Token(char kind, int place, String figures) { }

    private static final class Fault extends RuntimeException {
        private static final long serialVersionUID = 1;
        final int kind;
        final int place;

        Fault(int kind, int place) {
            this.kind = kind;
            this.place = place;
        }
    }

    private static final Law NO_LAW = new Law(0, 0, List.of(), List.of(), List.of(), List.of());

    private StringBuilder text = new StringBuilder();
    private int fault = NONE;
    private Law law = NO_LAW;
    private State now = first(NO_LAW);
    private final ArrayDeque<State> past = new ArrayDeque<>();
    private final Map<Integer, Image> images = new HashMap<>();
    private final List<Seen> seen = new ArrayList<>();
    private final List<Entry> book = new ArrayList<>();
    private long seed = 0;

    private static State first(Law law) {
        return new State(law.l, 0, false, 0, List.of(), List.of(), law.persons);
    }

    // ---- the text

    private static List<Token> tokens(String text) {
        List<Token> tokens = new ArrayList<>();
        int i = 0;
        while (i < text.length()) {
            int from = i;
            char c = text.charAt(i);
            if (c >= '0' && c <= '9') {
                while (i < text.length() && text.charAt(i) >= '0' && text.charAt(i) <= '9') {
                    i++;
                }
                tokens.add(new Token('#', from, text.substring(from, i)));
            } else {
                i++;
                if (c != ' ') {
                    tokens.add(new Token(c == '#' ? '?' : c, from, ""));
                }
            }
        }
        tokens.add(new Token('.', text.length(), ""));
        return tokens;
    }

    private static int number(Token token, int least, int most) {
        if (token.kind != '#') {
            throw new Fault(1, token.place);
        }
        if (token.figures.length() > 3) {
            throw new Fault(2, token.place);
        }
        int value = Integer.parseInt(token.figures);
        if (value < least || value > most) {
            throw new Fault(2, token.place);
        }
        return value;
    }

    private static void sign(Token token, char sign) {
        if (token.kind != sign) {
            throw new Fault(1, token.place);
        }
    }

    private static Law read(String text) {
        List<Token> t = tokens(text);
        // A real '.' is no end: the end is the last token alone.
        int end = t.size() - 1;
        if (end == 0) {
            return NO_LAW;
        }
        int l = 0;
        int w = 0;
        List<Integer> nicks = new ArrayList<>();
        List<Office> offices = new ArrayList<>();
        List<Integer> persons = new ArrayList<>();
        List<Integer> sways = new ArrayList<>();
        int i = 0;
        while (i < end) {
            Token word = t.get(i);
            boolean isWord = "rnopd".indexOf(word.kind) >= 0;
            if (!isWord || (i == 0 && word.kind != 'r')) {
                throw new Fault(1, word.place);
            }
            boolean tooMany = word.kind == 'r' && i > 0 || word.kind == 'd' && !sways.isEmpty()
                    || word.kind == 'n' && nicks.size() == 5 || word.kind == 'o' && offices.size() == 6
                    || word.kind == 'p' && persons.size() == 6;
            if (tooMany) {
                throw new Fault(3, word.place);
            }
            i++;
            if (word.kind == 'r') {
                l = number(t.get(i++), 12, 240);
                w = number(t.get(i++), 0, 9);
            } else if (word.kind == 'n') {
                int x = number(t.get(i), 1, 239);
                if (nicks.contains(x)) {
                    throw new Fault(4, t.get(i).place);
                }
                nicks.add(x);
                i++;
            } else if (word.kind == 'o') {
                int a = number(t.get(i++), 1, 99);
                int b = number(t.get(i), 1, 99);
                if (b < a) {
                    throw new Fault(2, t.get(i).place);
                }
                offices.add(new Office(a, b));
                i++;
            } else if (word.kind == 'p') {
                persons.add(number(t.get(i++), 1, 999));
            } else {
                sways.add(number(t.get(i++), 0, 9));
                while (t.get(i).kind == ',') {
                    if (sways.size() == 12) {
                        throw new Fault(1, t.get(i).place);
                    }
                    i++;
                    sways.add(number(t.get(i++), 0, 9));
                }
            }
            sign(t.get(i++), ';');
        }
        return new Law(l, w, nicks, offices, persons, sways);
    }

    public int feed(int letter) {
        if (letter < 0 || letter > 255) {
            return OUTSIDE;
        }
        if (text.length() == 240) {
            return FULL;
        }
        text.append((char) letter);
        return text.length();
    }

    public int realm() {
        String whole = text.toString();
        text = new StringBuilder();
        fault = NONE;
        try {
            law = read(whole);
        } catch (Fault found) {
            fault = found.place;
            return -10 - found.kind;
        }
        now = first(law);
        past.clear();
        images.clear();
        seen.clear();
        book.clear();
        return law.l;
    }

    public int fault() {
        return fault;
    }

    public int told(int what) {
        if (what < 0 || what > 13) {
            return OUTSIDE;
        }
        int longest = NONE;
        for (int i = 0; i < now.things.size(); i++) {
            final int hairs = now.things.get(i).hairs;
            if (longest == NONE && now.things.stream().allMatch(other -> other.hairs <= hairs)) {
                longest = i;
            }
        }
        int[] all = {law.l, law.nicks.size(), law.offices.size(), law.persons.size(), text.length(), now.years,
            now.length, now.lost ? 1 : 0, now.things.size(), now.hands.size(), longest, seen.size(), book.size(),
            past.size()};
        return all[what];
    }

    public int warped() {
        return law.l == 0 ? NOT : now.bend + 1000;
    }

    public int nick(int i) {
        return i >= 0 && i < law.nicks.size() ? law.nicks.get(i) : NONE;
    }

    private boolean isOffice(int o) {
        return o >= 0 && o < law.offices.size();
    }

    private boolean isPerson(int p) {
        return p >= 0 && p < law.persons.size();
    }

    private int measured(int tall) {
        return 10 * tall / now.length;
    }

    private boolean fits(int tall, int o) {
        return measured(tall) >= law.offices.get(o).a && measured(tall) <= law.offices.get(o).b;
    }

    public int office(int o, int what) {
        if (!isOffice(o)) {
            return UNKNOWN;
        }
        if (what < 0 || what > 2) {
            return OUTSIDE;
        }
        int set = 0;
        for (int p = 0; p < now.tall.size(); p++) {
            set += fits(now.tall.get(p), o) ? (int) Math.pow(2, p) : 0;
        }
        return what == 0 ? law.offices.get(o).a : what == 1 ? law.offices.get(o).b : set;
    }

    public int person(int p, int what) {
        if (!isPerson(p)) {
            return UNKNOWN;
        }
        if (what < 0 || what > 1) {
            return OUTSIDE;
        }
        return what == 0 ? now.tall.get(p) : measured(now.tall.get(p));
    }

    public int thing(int i, int what) {
        if (i < 0 || i >= now.things.size()) {
            return UNKNOWN;
        }
        if (what < 0 || what > 3) {
            return OUTSIDE;
        }
        Thing it = now.things.get(i);
        return new int[] {it.hairs + 1000, it.n, it.m, it.year}[what];
    }

    public int hand(int i) {
        return i < 0 || i >= now.hands.size() ? UNKNOWN : now.hands.get(i);
    }

    // ---- what is done

    private void did(State next) {
        past.addLast(now);
        if (past.size() > 16) {
            past.removeFirst();
        }
        now = next;
    }

    private State passed(State from) {
        int bend = from.bend;
        int length = from.length;
        if (!from.lost) {
            int sway = law.sways.isEmpty() ? 4 : law.sways.get(from.years % law.sways.size());
            bend = Math.min(99, Math.max(-99, bend + sway - 4));
            length = Math.max(1, length - law.w);
        }
        return new State(length, bend, from.lost, from.years + 1, from.things, from.hands, from.tall);
    }

    private static State rod(State from, int length, int bend, boolean lost) {
        return new State(length, bend, lost, from.years, from.things, from.hands, from.tall);
    }

    private static State held(State from, List<Integer> hands) {
        return new State(from.length, from.bend, from.lost, from.years, from.things, hands, from.tall);
    }

    private static State made(State from, int n, int m) {
        List<Thing> things = new ArrayList<>(from.things);
        things.add(new Thing(from.length * (12 * n + m) / 12 + from.bend, n, m, from.years));
        if (things.size() > 20) {
            things.remove(0);
        }
        return new State(from.length, from.bend, from.lost, from.years, things, from.hands, from.tall);
    }

    public int year(int n) {
        if (n < 1 || n > 60) {
            return OUTSIDE;
        }
        if (law.l == 0) {
            return NOT;
        }
        if (now.years > 9000) {
            return FULL;
        }
        did(after(now, n));
        return now.years;
    }

    public int make(int n, int m) {
        if (n < 0 || n > 20 || m < 0 || m > 11) {
            return OUTSIDE;
        }
        if (law.l == 0 || now.lost) {
            return NOT;
        }
        did(made(now, n, m));
        return now.things.get(now.things.size() - 1).hairs + 1000;
    }

    public int warp(int v) {
        if (v < -99 || v > 99) {
            return OUTSIDE;
        }
        if (law.l == 0 || now.lost) {
            return NOT;
        }
        int was = now.bend;
        did(rod(now, now.length, v, false));
        return was + 1000;
    }

    private static int planed(State state) {
        int left = state.bend > 0 ? state.length - state.bend : state.length + state.bend;
        return left < 1 ? 1 : left;
    }

    public int plane() {
        if (law.l == 0 || now.lost) {
            return NOT;
        }
        did(rod(now, planed(now), 0, false));
        return now.length;
    }

    public int lose(boolean is) {
        if (law.l == 0) {
            return NOT;
        }
        boolean was = now.lost;
        did(rod(now, now.length, now.bend, is));
        return was ? 1 : 0;
    }

    public int hold(int e) {
        if (e < -20 || e > 20) {
            return OUTSIDE;
        }
        if (law.l == 0 || now.lost) {
            return NOT;
        }
        if (now.hands.size() == 8) {
            return FULL;
        }
        List<Integer> hands = new ArrayList<>(now.hands);
        hands.add(now.length + e < 0 ? 0 : now.length + e);
        did(held(now, hands));
        return hands.size();
    }

    public int drop() {
        int were = now.hands.size();
        did(held(now, List.of()));
        return were;
    }

    public int shorten(int p, int n) {
        if (!isPerson(p)) {
            return UNKNOWN;
        }
        if (n < 1 || n > 999) {
            return OUTSIDE;
        }
        List<Integer> tall = new ArrayList<>(now.tall);
        tall.set(p, tall.get(p) - n < 1 ? 1 : tall.get(p) - n);
        did(new State(now.length, now.bend, now.lost, now.years, now.things, now.hands, tall));
        return tall.get(p);
    }

    private int draw(int n) {
        seed = (seed * 1103515245L + 12345L) % (1L << 31);
        return (int) (seed / 65536 % n);
    }

    public int drift(int n) {
        if (n < 1 || n > 60) {
            return OUTSIDE;
        }
        if (law.l == 0) {
            return NOT;
        }
        if (now.years > 9000) {
            return FULL;
        }
        State next = now;
        for (int i = 0; i < n; i++) {
            int chance = draw(8);
            int second = chance == 2 ? draw(21) - 10 : chance == 3 ? draw(10) : 0;
            if (chance == 0 || chance == 1) {
                next = rod(next, next.length, next.bend, chance == 0);
            } else if (chance == 2 && !next.lost) {
                next = rod(next, next.length, second, false);
            } else if (chance == 3 && !next.lost) {
                next = made(next, second, 0);
            }
            next = passed(next);
        }
        did(next);
        return now.things.size();
    }

    public int undo() {
        if (past.isEmpty()) {
            return NOT;
        }
        now = past.removeLast();
        return past.size();
    }

    // ---- tried

    private State after(State from, int n) {
        State state = from;
        for (int i = 0; i < n; i++) {
            state = passed(state);
        }
        return state;
    }

    private State tried(int n) {
        return after(rod(now, now.length, now.bend, false), n);
    }

    public int longAt(int n, int what) {
        if (n < 0 || n > 60 || what < 0 || what > 1) {
            return OUTSIDE;
        }
        if (law.l == 0) {
            return NOT;
        }
        return what == 0 ? tried(n).length : tried(n).bend + 1000;
    }

    public int firstShort(int x) {
        if (x < 1 || x > 240) {
            return OUTSIDE;
        }
        if (law.l == 0) {
            return NOT;
        }
        for (int n = 0; n <= 200; n++) {
            if (tried(n).length < x) {
                return n;
            }
        }
        return NONE;
    }

    public int planeWhen(int n, int what) {
        if (n < 0 || n > 60 || what < 0 || what > 1) {
            return OUTSIDE;
        }
        if (law.l == 0) {
            return NOT;
        }
        TreeMap<Integer, Integer> firstOf = new TreeMap<>();
        for (int k = 0; k <= n; k++) {
            firstOf.putIfAbsent(planed(tried(k)), k);
        }
        return what == 0 ? firstOf.lastEntry().getValue() : firstOf.lastKey();
    }

    /** Where one can be in exactly so many times. */
    private List<TreeSet<Integer>> reached(int times) {
        TreeSet<Integer> lengths = new TreeSet<>();
        lengths.add(now.length);
        law.nicks.stream().filter(x -> x < now.length).forEach(lengths::add);
        List<TreeSet<Integer>> all = new ArrayList<>();
        TreeSet<Integer> at = new TreeSet<>(List.of(0));
        all.add(at);
        for (int i = 0; i < times; i++) {
            TreeSet<Integer> next = new TreeSet<>();
            for (int place : at) {
                for (int length : lengths) {
                    next.add(place + length);
                    next.add(place - length);
                }
            }
            next.removeIf(place -> place < 0 || place > 999);
            all.add(next);
            at = next;
        }
        return all;
    }

    private int fewest(List<TreeSet<Integer>> reached, int x) {
        for (int times = 0; times < reached.size(); times++) {
            if (reached.get(times).contains(x)) {
                return times;
            }
        }
        return NONE;
    }

    public int had(int x) {
        if (x < 0 || x > 999) {
            return OUTSIDE;
        }
        if (law.l == 0) {
            return NOT;
        }
        return fewest(reached(20), x);
    }

    public int parts(int i) {
        if (law.l == 0) {
            return NOT;
        }
        List<Integer> parts = new ArrayList<>();
        List<TreeSet<Integer>> reached = reached(2);
        for (int x = 1; x <= now.length; x++) {
            if (fewest(reached, x) != NONE) {
                parts.add(x);
            }
        }
        return pick(parts, i);
    }

    private static int pick(List<Integer> all, int i) {
        return i == NONE ? all.size() : i >= 0 && i < all.size() ? all.get(i) : NONE;
    }

    public int fold(int x) {
        if (x < 0 || x > 999) {
            return OUTSIDE;
        }
        for (int half = 0; half < 500; half++) {
            if (half + half == x) {
                return half;
            }
        }
        return NONE;
    }

    /** All ways from office o on, the first of the fullest being the one that is kept. */
    private void tryPosts(int[] holders, int o, int taken, int filled, int[] best) {
        if (o == holders.length) {
            if (filled > best[holders.length]) {
                System.arraycopy(holders, 0, best, 0, o);
                best[o] = filled;
            }
            return;
        }
        for (int p = 0; p < now.tall.size(); p++) {
            if ((taken >> p) % 2 == 0 && fits(now.tall.get(p), o)) {
                holders[o] = p;
                tryPosts(holders, o + 1, taken + (1 << p), filled + 1, best);
            }
        }
        holders[o] = NONE;
        tryPosts(holders, o + 1, taken, filled, best);
    }

    public int posts(int o) {
        if (o != NONE && !isOffice(o)) {
            return UNKNOWN;
        }
        int offices = law.offices.size();
        int[] best = new int[offices + 1];
        best[offices] = -1;
        tryPosts(new int[offices], 0, 0, 0, best);
        return o == NONE ? best[offices] : best[o];
    }

    public int toShorten(int p, int o) {
        if (!isPerson(p) || !isOffice(o)) {
            return UNKNOWN;
        }
        for (int n = 0; n <= 999; n++) {
            if (fits(Math.max(1, now.tall.get(p) - n), o)) {
                return n;
            }
        }
        return NONE;
    }

    public int wasWarped(int year, int l, int what) {
        if (year < 0 || year > 9999 || l < 1 || l > 240 || what < 0 || what > 1) {
            return OUTSIDE;
        }
        List<Integer> fitting = new ArrayList<>();
        for (int v = -99; v <= 99; v++) {
            final int bend = v;
            if (now.things.stream().filter(it -> it.year == year)
                    .allMatch(it -> l * (12 * it.n + it.m) / 12 + bend == it.hairs)) {
                fitting.add(v);
            }
        }
        return what == 0 ? fitting.size() : fitting.isEmpty() ? NONE : fitting.get(0) + 1000;
    }

    public int alike(int i) {
        TreeSet<Integer> pairs = new TreeSet<>();
        for (int b = 0; b < now.things.size(); b++) {
            for (int a = 0; a < b; a++) {
                if (now.things.get(a).hairs == now.things.get(b).hairs) {
                    pairs.add(100 * a + b);
                }
            }
        }
        return pick(new ArrayList<>(pairs), i);
    }

    public int hands(int what) {
        if (what < 0 || what > 3) {
            return OUTSIDE;
        }
        if (now.hands.isEmpty()) {
            return NONE;
        }
        int mean = now.hands.stream().mapToInt(wide -> wide).sum() / now.hands.size();
        if (what == 0) {
            return mean;
        }
        if (what == 1) {
            return now.hands.stream().sorted().toList().get((now.hands.size() - 1) / 2);
        }
        TreeMap<Integer, Integer> firstAt = new TreeMap<>();
        for (int i = 0; i < now.hands.size(); i++) {
            firstAt.putIfAbsent(Math.abs(now.hands.get(i) - (what == 2 ? mean : now.length)), i);
        }
        return what == 2 ? firstAt.lastEntry().getValue() : firstAt.firstEntry().getValue();
    }

    public int tens(int n, int m, int what) {
        if (n < 0 || n > 999 || m < 0 || m > 11 || what < 0 || what > 1) {
            return OUTSIDE;
        }
        int all = 10 * (12 * n + m);
        return what == 0 ? all / 12 : all - all / 12 * 12;
    }

    public int lean(int d, int a, int b) {
        if (d < 0 || d > 999 || a < 0 || a > 99 || b < 0 || b > 99) {
            return OUTSIDE;
        }
        for (int miles = 0; miles <= 999; miles++) {
            if (miles * (a + b) >= d) {
                return miles;
            }
        }
        return NONE;
    }

    public int foundBy(int n, int q) {
        if (n < 0 || n > 60 || q < 0 || q > 100) {
            return OUTSIDE;
        }
        return n == 0 ? 1000000000 : (int) ((long) foundBy(n - 1, q) * (100 - q) / 100);
    }

    // ---- what is seen

    public int see(int n, int x) {
        if (n < 1 || n > 9 || x < 0 || x > 9999) {
            return OUTSIDE;
        }
        if (seen.size() == 6) {
            return FULL;
        }
        seen.add(new Seen(n, x));
        return seen.size();
    }

    private List<Pair> pairs() {
        List<Pair> pairs = new ArrayList<>();
        for (int l = 1; l <= 240; l++) {
            for (int v = -9; v <= 9; v++) {
                final int length = l;
                final int bend = v;
                if (seen.stream().allMatch(it -> length * it.n + bend == it.x)) {
                    pairs.add(new Pair(l, v));
                }
            }
        }
        return pairs;
    }

    public int rods(int what) {
        if (what < 0 || what > 2) {
            return OUTSIDE;
        }
        List<Pair> pairs = pairs();
        if (what == 0) {
            return pairs.size();
        }
        return pairs.isEmpty() ? NONE : what == 1 ? pairs.get(0).l : pairs.get(0).v + 1000;
    }

    public int door() {
        List<Pair> pairs = pairs();
        int best = NONE;
        int bestPart = pairs.size();
        for (int n = 1; n <= 9; n++) {
            Map<Integer, Integer> parts = new HashMap<>();
            for (Pair pair : pairs) {
                parts.merge(pair.l * n + pair.v, 1, Integer::sum);
            }
            int part = parts.values().stream().mapToInt(size -> size).max().orElse(0);
            if (part < bestPart) {
                bestPart = part;
                best = n;
            }
        }
        return best;
    }

    public int write(int p, int tall) {
        if (!isPerson(p)) {
            return UNKNOWN;
        }
        if (tall < 1 || tall > 999) {
            return OUTSIDE;
        }
        if (book.size() == 15) {
            return FULL;
        }
        book.add(new Entry(p, tall));
        return book.size();
    }

    public int tear() {
        int had = seen.size() + book.size();
        seen.clear();
        book.clear();
        return had;
    }

    public int judge() {
        for (Entry entry : book) {
            if (now.tall.get(entry.p) != entry.tall) {
                return book.indexOf(entry);
            }
        }
        return NONE;
    }

    // ---- draws, images

    public int seed(int v) {
        if (v < 0) {
            return OUTSIDE;
        }
        int was = (int) seed;
        seed = v;
        return was;
    }

    public int keep(int i) {
        if (i < 0 || i > 1) {
            return UNKNOWN;
        }
        images.put(i, new Image(now, seed));
        past.clear();
        return 1;
    }

    public int goBack(int i) {
        if (i < 0 || i > 1) {
            return UNKNOWN;
        }
        if (!images.containsKey(i)) {
            return NOT;
        }
        now = images.get(i).state;
        seed = images.get(i).seed;
        past.clear();
        return 1;
    }
}
