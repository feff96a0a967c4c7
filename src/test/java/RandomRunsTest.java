import java.lang.reflect.Method;
import java.lang.reflect.Modifier;
import java.util.ArrayList;
import java.util.Comparator;
import java.util.List;
import java.util.Random;

/** All promises: runs of calls by a fixed seed, each answer compared with that of PlainRuler. */
public final class RandomRunsTest {
    private static final int RUNS = 1500;
    /** What an object answers beyond so many calls is free. */
    private static final int CALLS = 512;
    private static final int[] EDGES = {-1, 0, 1, -100, -99, 99, 100, 12, 11, 20, 21, -20, -21, 60, 61, 240, 241, 999,
        1000, 9999, 10000, 255, 256, Integer.MAX_VALUE, Integer.MIN_VALUE};

    private final Random random;
    private final List<String> log = new ArrayList<>();
    private final RulerFoot foot = new RulerFoot();
    private final PlainRuler plain = new PlainRuler();
    private int calls = 0;
    private boolean failed = false;

    private RandomRunsTest(long seed) {
        random = new Random(seed);
    }

    public static void main(String[] args) throws Exception {
        List<Method> face = new ArrayList<>();
        for (Method method : RulerFoot.class.getDeclaredMethods()) {
            if (Modifier.isPublic(method.getModifiers()) && !method.getName().equals("feed")) {
                face.add(method);
            }
        }
        face.sort(Comparator.comparing(Method::getName));
        int runs = args.length > 0 ? Integer.parseInt(args[0]) : RUNS;
        int wrong = 0;
        for (int run = 0; run < runs && wrong < 5; run++) {
            wrong += new RandomRunsTest(run).holds(face) ? 0 : 1;
        }
        System.out.println(runs + " runs, " + wrong + " with an answer that is not as due");
        if (wrong != 0) {
            System.exit(1);
        }
    }

    private boolean holds(List<Method> face) throws Exception {
        if (random.nextInt(8) != 0) {
            tell(goodText());
        }
        // Some runs keep to few calls, so that they fill what can be full.
        List<Method> some = new ArrayList<>(face);
        if (random.nextInt(3) == 0) {
            some.removeIf(method -> random.nextInt(4) != 0);
        }
        for (int i = 0; i < CALLS && calls < CALLS && !failed; i++) {
            int chance = random.nextInt(200);
            if (chance == 0) {
                tell(goodText());
            } else if (chance < 4) {
                tell(spoilt(goodText()));
            } else if (!some.isEmpty()) {
                Method call = some.get(random.nextInt(some.size()));
                // Rare, since it leaves no realm behind.
                if (!call.getName().equals("realm") || random.nextInt(20) == 0) {
                    compare(call, arguments(call));
                }
            }
        }
        return !failed;
    }

    private void compare(Method call, Object[] arguments) throws Exception {
        if (calls >= CALLS) {
            return;
        }
        calls++;
        Method twin = PlainRuler.class.getMethod(call.getName(), call.getParameterTypes());
        int got = (int) call.invoke(foot, arguments);
        int want = (int) twin.invoke(plain, arguments);
        log.add(call.getName() + java.util.Arrays.toString(arguments) + " " + got);
        if (got != want) {
            failed = true;
            System.out.println(String.join("\n", log.subList(Math.max(0, log.size() - 60), log.size())));
            System.out.println("due is " + want);
        }
    }

    private void tell(String text) throws Exception {
        log.add("text: " + text);
        Method feed = RulerFoot.class.getMethod("feed", int.class);
        for (int i = 0; i < text.length() && !failed; i++) {
            compare(feed, new Object[] {(int) text.charAt(i)});
        }
        compare(RulerFoot.class.getMethod("realm"), new Object[0]);
        compare(RulerFoot.class.getMethod("fault"), new Object[0]);
    }

    private Object[] arguments(Method call) {
        Class<?>[] kinds = call.getParameterTypes();
        Object[] arguments = new Object[kinds.length];
        for (int i = 0; i < kinds.length; i++) {
            arguments[i] = kinds[i] == boolean.class ? (Object) random.nextBoolean() : (Object) number(call, i);
        }
        return arguments;
    }

    private int number(Method call, int place) {
        if (random.nextInt(25) == 0) {
            return EDGES[random.nextInt(EDGES.length)];
        }
        String name = call.getName();
        if (name.equals("see") && place == 1) {
            // Mostly doors of one rod, so that several are seen and still fit.
            return random.nextInt(10) == 0 ? random.nextInt(2200) : Math.max(0, 24 * (1 + random.nextInt(9)) + 3);
        }
        if (name.equals("wasWarped")) {
            return place == 0 ? random.nextInt(6) : place == 1 ? 1 + random.nextInt(30) : random.nextInt(2);
        }
        if (name.equals("write") && place == 1) {
            return 1 + random.nextInt(60);
        }
        switch (name + place) {
            case "year0": case "drift0":
                return 1 + random.nextInt(random.nextInt(4) == 0 ? 60 : 4);
            case "warp0":
                return random.nextInt(60) - 30;
            case "hold0":
                return random.nextInt(41) - 20;
            case "had0": case "fold0": case "tens0": case "lean0":
                return random.nextInt(1000);
            case "firstShort0":
                return 1 + random.nextInt(60);
            case "lean1": case "lean2": case "foundBy1":
                return random.nextInt(100);
            case "longAt0": case "planeWhen0": case "foundBy0":
                return random.nextInt(61);
            case "shorten1":
                return 1 + random.nextInt(20);
            case "seed0":
                return random.nextInt() & Integer.MAX_VALUE;
            case "parts0": case "alike0": case "thing0":
                return random.nextInt(22) - 1;
            default:
                return random.nextInt(8) - 1;
        }
    }

    private String blank() {
        return random.nextInt(8) == 0 ? " ".repeat(1 + random.nextInt(2)) : "";
    }

    private String goodText() {
        StringBuilder text = new StringBuilder(blank());
        boolean small = random.nextBoolean();
        text.append('r').append(blank()).append(small ? 12 + random.nextInt(20) : 12 + random.nextInt(229)).append(' ')
            .append(random.nextInt(3) == 0 ? random.nextInt(10) : random.nextInt(2)).append(blank()).append(';');
        List<Integer> nicks = new ArrayList<>();
        boolean swayed = false;
        for (int i = random.nextInt(16); i > 0; i--) {
            text.append(blank());
            int kind = random.nextInt(4);
            if (kind == 0 && nicks.size() < 5) {
                int x = 1 + random.nextInt(small ? 40 : 239);
                if (!nicks.contains(x)) {
                    nicks.add(x);
                    text.append('n').append(blank()).append(x).append(';');
                }
            } else if (kind == 1) {
                int a = 1 + random.nextInt(40);
                text.append('o').append(a).append(' ').append(a + random.nextInt(60)).append(blank()).append(';');
            } else if (kind == 2) {
                text.append('p').append(1 + random.nextInt(small ? 120 : 999)).append(';');
            } else if (!swayed) {
                swayed = true;
                text.append('d').append(random.nextInt(10));
                for (int more = random.nextInt(12); more > 0; more--) {
                    text.append(blank()).append(',').append(blank()).append(random.nextInt(10));
                }
                text.append(';');
            }
        }
        return text.toString();
    }

    private String spoilt(String text) {
        StringBuilder spoilt = new StringBuilder(text);
        String signs = "rnopd;, 0123456789x.#" + (char) 0 + (char) 255;
        for (int i = random.nextInt(3); i >= 0; i--) {
            int at = random.nextInt(spoilt.length() + 1);
            char sign = signs.charAt(random.nextInt(signs.length()));
            int way = random.nextInt(4);
            if (way == 0 || at == spoilt.length()) {
                spoilt.insert(at, sign);
            } else if (way == 1) {
                spoilt.setCharAt(at, sign);
            } else if (way == 2) {
                spoilt.deleteCharAt(at);
            } else {
                spoilt.setLength(at);
            }
        }
        return spoilt.toString();
    }
}
