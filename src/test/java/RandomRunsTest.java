import java.lang.reflect.InvocationTargetException;
import java.lang.reflect.Method;
import java.util.HashMap;
import java.util.Map;
import java.util.NoSuchElementException;
import java.util.Random;

/** Random runs of calls on new objects, with the same seeds each time: LiftBank answers as the Oracle does. */
public final class RandomRunsTest {
    private static final String[] NAMES = {"feed", "group", "fault", "count", "car", "rider", "given", "cost", "ticks",
        "come", "out", "fire", "rule", "undo", "ahead", "when", "mean", "anew", "homes", "later", "note", "fits",
        "look", "forget", "years", "image", "restore"};
    /** How often each is called; the dear ones seldom, as the Oracle is slow. */
    private static final int[] WEIGHTS = {0, 0, 4, 40, 50, 40, 25, 20, 60, 40, 12, 6, 14, 16, 8, 6, 3, 3, 1, 1, 8, 1,
        1, 1, 4, 4, 4};

    private static final Map<String, Method> FACE = new HashMap<>();

    private final Random random;
    private LiftBank bank;
    private Oracle oracle;
    private final StringBuilder story = new StringBuilder();

    private RandomRunsTest(long seed) {
        random = new Random(seed);
    }

    public static void main(String[] args) {
        for (Method m : LiftBank.class.getMethods()) FACE.put(m.getName(), m);
        int runs = 700;
        for (int seed = 0; seed < runs; seed++) {
            String wrong = new RandomRunsTest(seed).run(seed % 3 == 0);
            if (wrong != null) {
                System.out.println("seed " + seed + ":\n" + wrong);
                System.exit(1);
            }
        }
        System.out.println(runs + " random runs are as the Oracle's");
    }

    private String run(boolean wild) {
        bank = new LiftBank();
        oracle = new Oracle();
        int calls = 0;
        while (calls < 200) {
            if (random.nextInt(calls == 0 ? 2 : 120) == 0 && !tell()) return story.toString();
            int what = pick();
            int[] a = arguments(what, wild && random.nextInt(3) == 0);
            if (!same(what, a)) return story.toString();
            calls++;
        }
        return null;
    }

    private boolean same(int what, int[] a) {
        String want = answer(what, a, false);
        String got = answer(what, a, true);
        story.append(NAMES[what]).append(java.util.Arrays.toString(a)).append(" -> ").append(got).append('\n');
        if (!want.equals(got)) story.append("  but due is ").append(want).append('\n');
        return want.equals(got);
    }

    private boolean tell() {
        TextMaker maker = new TextMaker(random);
        String text = maker.make();
        story.append("text: ").append(text).append('\n');
        int n = text.length();
        for (int i = 0; i < n; i += 20) {
            int[] a = new int[5];
            for (int k = 0; k < 20; k++) {
                int sign = i + k < n ? text.charAt(i + k) : random.nextInt(256);
                a[k / 4] |= sign << 24 - k % 4 * 8;
            }
            if (!same(0, a)) return false;
        }
        if (random.nextInt(10) == 0 && !same(1, new int[] {(n + 19) / 20 * 20 + 1})) return false;
        return same(3, new int[] {22}) && same(1, new int[] {n}) && same(2, new int[0]) && same(3, new int[] {23});
    }

    private int pick() {
        int sum = 0;
        for (int w : WEIGHTS) sum += w;
        int at = random.nextInt(sum);
        for (int i = 0; i < WEIGHTS.length; i++) {
            at -= WEIGHTS[i];
            if (at < 0) return i;
        }
        return 2;
    }

    private int in(int low, int high) {
        return low + random.nextInt(high - low + 1);
    }

    private int[] arguments(int what, boolean wild) {
        int cars = Math.max(0, oracle.count(1) - 1);
        int riders = Math.max(0, oracle.count(2) - 1);
        int floors = oracle.count(0) - 1;
        int edge = wild ? 1 : 0;
        int[] a;
        switch (NAMES[what]) {
            case "count":
                a = new int[] {random.nextInt(60) == 0 ? in(17, 19) : in(-edge, 29 + edge)};
                if (!wild && (a[0] >= 17 && a[0] <= 19 || a[0] == 27) && random.nextInt(4) != 0) a[0] = in(7, 16);
                break;
            case "car": a = new int[] {in(-edge, cars + edge), in(-edge, 9 + edge)}; break;
            case "rider": a = new int[] {in(-edge, riders + edge), in(-edge, 7 + edge)}; break;
            case "given": a = new int[] {in(-edge, floors + edge), in(0, 1), in(1 - edge, 2 + edge)}; break;
            case "cost":
                a = new int[] {in(-edge, cars + edge), in(-edge, floors + edge), in(0, 1), in(1 - edge, 2 + edge)};
                break;
            case "ticks": a = new int[] {random.nextInt(12) == 0 ? in(1 - edge, 60 + edge) : in(1 - edge, 6)}; break;
            case "come":
                a = new int[] {in(-edge, floors + edge), in(-edge, floors + edge), in(1 - edge, 2 + edge)};
                break;
            case "out": a = new int[] {in(-edge, cars + edge), in(0, 1)}; break;
            case "fire": a = new int[] {in(0, 1)}; break;
            case "rule": a = new int[] {in(-edge, 1 + edge), in(-edge, random.nextBoolean() ? 2 : 11 + edge)}; break;
            case "ahead": a = new int[] {in(-edge, 120 + edge), in(-edge, 3 + edge)}; break;
            case "when": case "later": a = new int[] {in(-edge, riders + edge)}; break;
            case "mean": a = new int[] {in(-edge, 2 + edge), in(-edge, 11 + edge)}; break;
            case "anew": a = new int[] {in(-edge, 2 + edge), in(-edge, 11 + edge), in(-edge, 2 + edge)}; break;
            case "homes": a = new int[] {in(-edge, cars + edge), in(-edge, 1 + edge)}; break;
            case "note": a = likelyNote(riders, edge); break;
            case "fits": case "look": a = new int[] {in(-edge, 1 + edge)}; break;
            case "years": a = new int[] {random.nextInt(), in(-edge, 20 + edge), in(-edge, 2 + edge)}; break;
            default: a = new int[0];
        }
        if (wild && a.length > 0 && random.nextInt(6) == 0) {
            int[] far = {Integer.MIN_VALUE, Integer.MAX_VALUE, -1000, 1000, 31, 32, 33, 64};
            a[random.nextInt(a.length)] = far[random.nextInt(far.length)];
        }
        return a;
    }

    /** Mostly a TIME that some run really has, so that what is NOTED may fit. */
    private int[] likelyNote(int riders, int edge) {
        int rider = in(-edge, riders + edge);
        int time = in(-edge, 199 + edge);
        if (rider >= 0 && rider < oracle.count(2) && random.nextInt(4) != 0) {
            int when = oracle.when(rider);
            if (when >= 0 && when < 200) time = when;
        }
        return new int[] {rider, time};
    }

    private String answer(int what, int[] a, boolean real) {
        Object x = real ? bank : oracle;
        Method face = FACE.get(NAMES[what]);
        Class<?>[] types = face.getParameterTypes();
        Object[] given = new Object[types.length];
        for (int i = 0; i < types.length; i++) {
            if (types[i] == boolean.class) given[i] = a[i] == 1;
            else given[i] = a[i];
        }
        try {
            return "" + x.getClass().getDeclaredMethod(NAMES[what], types).invoke(x, given);
        } catch (InvocationTargetException e) {
            Throwable cause = e.getCause();
            Class<?> type = cause.getClass();
            boolean told = type == NoSuchElementException.class || type == IllegalArgumentException.class;
            return told ? "throws." + type.getSimpleName() : "the machine throws " + cause;
        } catch (ReflectiveOperationException e) {
            throw new IllegalStateException(e);
        }
    }
}
