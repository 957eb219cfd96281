import java.lang.reflect.InvocationTargetException;
import java.lang.reflect.Method;
import java.util.Arrays;
import java.util.HashMap;
import java.util.Map;
import java.util.Random;

/** Random runs of calls, each answered by HullEars and by PlainEars. */
public final class RandomRunsTest {
    private static final Due DUE = new Due("RandomRunsTest");
    private static final Map<String, Method> FAST = new HashMap<>();
    private static final Map<String, Method> SLOW = new HashMap<>();

    private final Random random;
    private final HullEars fast = new HullEars();
    private final PlainEars slow = new PlainEars();
    private final StringBuilder story = new StringBuilder();
    /** A run that really goes through this sea, so that some runs fit what is heard. */
    private final int[] truth = new int[4];
    private final int chatter;
    /** In some runs much is heard, most of it at the first and the last bells. */
    private final boolean crowded;

    private RandomRunsTest(long seed) {
        random = new Random(seed);
        for (int i = 0; i < 4; i++) {
            truth[i] = i < 2 ? random.nextInt(32) : random.nextInt(7) - 3;
        }
        chatter = 1 + random.nextInt(20);
        crowded = random.nextInt(5) == 0;
    }

    private int any(int low, int high) {
        // Now and then a number just outside, or far away.
        int luck = random.nextInt(60 * chatter);
        if (luck == 0) return low - 1;
        if (luck == 1) return high + 1;
        if (luck == 2) return random.nextInt();
        if (luck == 3) return random.nextBoolean() ? low : high;
        return low + random.nextInt(high - low + 1);
    }

    private long call(String name, int... args) throws IllegalAccessException, InvocationTargetException {
        Object[] boxed = Arrays.stream(args).boxed().toArray();
        long got = ((Number) FAST.get(name).invoke(fast, boxed)).longValue();
        long want = ((Number) SLOW.get(name).invoke(slow, boxed)).longValue();
        String call = name + Arrays.toString(args);
        story.append(call).append(" -> ").append(got).append('\n');
        DUE.same(call, got, want);
        return got;
    }

    private void setUp() throws IllegalAccessException, InvocationTargetException {
        for (int b = 0; b < 2; b++) {
            call("boat", b, any(0, 31), any(0, 31), random.nextInt(3) == 0 ? any(0, 9) : 5);
            int legs = random.nextInt(4);
            int bell = 0;
            for (int i = 0; i < legs; i++) {
                bell += random.nextInt(8);
                call("leg", b, bell, any(-3, 3), any(-3, 3));
                bell++;
            }
        }
        int layers = random.nextInt(5);
        for (int i = 0; i < layers; i++) {
            call("layer", any(0, 9), any(90, 110));
        }
        if (random.nextBoolean()) call("terms", 0, any(0, 20));
        if (random.nextBoolean()) call("terms", 1, any(0, 9));
        if (random.nextBoolean()) call("terms", 2, any(0, 3));
        if (random.nextInt(3) == 0) call("terms", 3, any(0, 9));
        if (random.nextInt(3) == 0) call("terms", 4, any(1, 23));
        if (random.nextInt(3) == 0) call("terms", 5, any(0, 40));
        if (random.nextInt(2) == 0) law();
    }

    private void law() throws IllegalAccessException, InvocationTargetException {
        String text = RandomLaw.text(random);
        type(text);
        call("law");
        call("fault");
        call("count", 5);
    }

    private void type(String text) throws IllegalAccessException, InvocationTargetException {
        for (int from = 0; from < text.length(); from += 20) {
            int[] numbers = new int[5];
            for (int i = 0; i < 20; i++) {
                int sign = from + i < text.length() ? text.charAt(from + i) : 0;
                numbers[i / 4] = numbers[i / 4] << 8 | sign;
            }
            call("feed", numbers);
        }
        call("end", text.length());
    }

    /** Mostly what the true run sounds like, now and then anything. */
    private void hear() throws IllegalAccessException, InvocationTargetException {
        int boat = random.nextInt(2);
        int bell = random.nextInt(3) == 0 ? random.nextInt(3) : random.nextInt(24);
        if (crowded) bell = Math.floorMod(random.nextInt(5) - 2, 24);
        int x = truth[0] + truth[2] * bell - slow.where(boat, bell, 0);
        int y = truth[1] + truth[3] * bell - slow.where(boat, bell, 1);
        int direction = slow.bearing(x, y);
        if (direction < 0 || random.nextInt(4) == 0) {
            call("heard", any(0, 1), any(0, 23), any(0, 79));
        } else {
            call("heard", boat, bell, Math.floorMod(direction + random.nextInt(3) - 1, 80));
        }
        if (random.nextInt(5) == 0) {
            if (random.nextInt(3) == 0) {
                call("echo", any(0, 1), any(0, 23), any(0, 99));
            } else {
                call("echo", boat, bell, (int) Math.min(99, Math.sqrt(x * x + y * y)));
            }
        }
    }

    private void change() throws IllegalAccessException, InvocationTargetException {
        switch (random.nextInt(24)) {
            case 0: call("boat", any(0, 1), any(0, 31), any(0, 31), any(0, 9)); break;
            case 1: call("leg", any(0, 1), any(0, 23), any(-3, 3), any(-3, 3)); break;
            case 2: call("terms", 0, any(0, 20)); break;
            case 3: call("terms", any(0, 5), any(0, 9)); break;
            case 4: call("terms", 2, any(0, 3)); break;
            case 5: call("day", any(0, 2)); break;
            case 6: call("layer", any(0, 9), any(0, 200)); break;
            case 7: call("wreck", any(0, 31), any(0, 31)); break;
            case 8:
                int from = random.nextInt(24);
                call("shoal", any(0, 31), any(0, 31), any(0, 9), from, any(from - 1, 23));
                break;
            case 9: case 10: call("guess", any(0, 31), any(0, 31), any(-3, 3), any(-3, 3)); break;
            case 11: call("guess", truth); break;
            case 12: case 13: case 14: call("offer", any(-3, 3), any(-3, 3)); break;
            case 15: call("beat", any(1, 3000)); break;
            case 16: call("beat", 1 + random.nextInt(40) * (1 + random.nextInt(7)) * 5); break;
            case 17: call("cell", any(0, 100), any(0, 100)); break;
            case 18: call("cell", random.nextInt(4) * 25, random.nextInt(3) * 50); break;
            case 19: call("image", any(0, 1)); break;
            case 20: call("back", any(0, 1)); break;
            case 21: law(); break;
            case 22:
                StringBuilder row = new StringBuilder();
                int bytes = random.nextInt(20);
                for (int i = 0; i < bytes; i++) {
                    int[] most = {2, 25, 82};
                    row.append((char) random.nextInt(most[i % 3]));
                }
                type(row.toString());
                call("row");
                call("torn");
                break;
            default: hear(); break;
        }
        call("status");
    }

    private void ask() throws IllegalAccessException, InvocationTargetException {
        switch (random.nextInt(32)) {
            case 0: call("where", any(0, 1), any(0, 23), any(0, 2)); break;
            case 1: call("reaches", any(0, 9), any(0, 9), any(0, 200)); break;
            case 2: call("bearing", any(-1000, 1000), any(-1000, 1000)); break;
            case 3: call("bearing", any(-9, 9), any(-9, 9)); break;
            case 4: call("known", 0, any(0, Math.max(0, fast.count(0) - 1))); break;
            case 5: call("known", any(0, 1), any(0, 6)); break;
            case 6: call("count", any(0, 16)); break;
            case 7: call("runs"); break;
            case 8: call("run", any(0, Math.max(0, fast.runs() - 1)), any(0, 3)); break;
            case 9: call("span", any(0, 23), any(0, 3)); break;
            case 10: call("misses", any(0, 31), any(0, 31), any(-3, 3), any(-3, 3)); break;
            case 11: call("misses", truth); break;
            case 12: call("alone", any(0, 23), any(0, 1)); break;
            case 13: call("within", any(0, 23), any(-99, 199), any(-99, 199), any(0, 99)); break;
            case 14: call("within", any(0, 23), any(0, 31), any(0, 31), any(0, 20)); break;
            case 15: call("least", any(0, 2)); break;
            case 16: call("better", any(0, Math.max(0, fast.count(15) - 1))); break;
            case 17: call("parts", any(0, 18), any(1, 9), any(0, Math.max(0, fast.count(3) - 1))); break;
            case 18: call("turn", any(0, 18), any(1, 9)); break;
            case 19: call("heardBy", any(0, 18), any(1, 9), any(0, Math.max(0, fast.count(3) - 1))); break;
            case 20: call("silent", any(0, 18), any(1, 9), any(0, Math.max(1, fast.runs()))); break;
            case 21: call("traces", any(0, 1)); break;
            case 22: call("next", any(0, Math.max(0, fast.count(0) - 1))); break;
            case 23: sure(); break;
            case 24: call("watch", any(0, 5), any(0, 3)); break;
            case 25: crossings(); break;
            case 26: call("screws"); call("screw", any(0, 3), any(0, 1)); break;
            case 27: call("tells", any(0, 1), any(0, 23), any(0, 200), any(0, 2)); break;
            case 28: call("hears", any(0, 1), any(0, 23)); break;
            case 29: call("search", any(0, 6), any(0, 1)); break;
            case 30: call("looks", any(0, 6), any(0, Math.max(0, fast.count(6) - 1))); break;
            default: call("status"); break;
        }
    }

    private void sure() throws IllegalAccessException, InvocationTargetException {
        int last = Math.max(0, fast.count(0) - 1);
        for (int i = 0; i < 6; i++) {
            call("sure", any(0, last), any(0, last));
        }
    }

    private void crossings() throws IllegalAccessException, InvocationTargetException {
        int bell = crowded ? Math.floorMod(random.nextInt(5) - 2, 24) : any(0, 3);
        int most = crowded ? 6 : 2;
        call("pairings", bell);
        call("cross", bell, any(0, most), any(0, most));
        call("ghost", bell, any(0, most), any(0, most));
    }

    private void play(int steps) throws IllegalAccessException, InvocationTargetException {
        setUp();
        int first = crowded ? 10 + random.nextInt(20) : random.nextInt(8);
        for (int i = 0; i < first; i++) {
            hear();
            if (crowded && i % 3 == 0) change();
        }
        for (int i = 0; i < steps && DUE.isGood(); i++) {
            if (random.nextInt(3) == 0) {
                change();
            } else {
                ask();
            }
        }
        if (!DUE.isGood()) {
            System.out.println(story);
        }
    }

    public static void main(String[] args) throws IllegalAccessException, InvocationTargetException {
        for (Method m : HullEars.class.getDeclaredMethods()) FAST.put(m.getName(), m);
        for (Method m : PlainEars.class.getDeclaredMethods()) {
            if (!java.lang.reflect.Modifier.isPrivate(m.getModifiers())) {
                m.setAccessible(true);
                SLOW.put(m.getName(), m);
            }
        }
        int runs = args.length > 0 ? Integer.parseInt(args[0]) : 60;
        int first = args.length > 1 ? Integer.parseInt(args[1]) : 1;
        for (int seed = first; seed < first + runs && DUE.isGood(); seed++) {
            new RandomRunsTest(seed).play(60);
            if (!DUE.isGood()) System.out.println("seed " + seed);
        }
        DUE.finish();
    }
}
