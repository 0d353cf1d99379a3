import java.lang.reflect.Method;
import java.lang.reflect.Modifier;
import java.util.Arrays;
import java.util.Random;
import java.util.Set;
import java.util.TreeSet;

/** Runs of any calls of one object, one behind the other: each answer is that of the mirror, whatever came ahead of it. */
public final class RunTest {
    private static final Due DUE = new Due("RunTest");
    private static final int RUNS = 300;
    private static final int CALLS = 512;

    /**
     * Each method with what its arguments are: s STALL, b BUYER, r RING, p PLACE, m MINUTE, l SLOT, w WIDTH, i a number's
     * place in a row, k IMAGE, $ price, t turns, d seed, h how many HOURS, o odds, e SALE, z how many bytes, v a number,
     * x anything, a digit a what up to it.
     */
    private static final String[] FACE = {"feed xxxxx", "end z", "market", "fault 1", "stall s6", "buyer b3", "want b22", "at sm",
        "comes spm", "there rpm", "face ssm", "often ss", "asks sm", "has sm", "sold s2", "bought b3", "coins bm", "sale e3", "all 4",
        "best b", "cost b", "choice bm", "needs b", "send ppm1", "round pm", "swap 1", "moves bp", "offer s$", "wise s", "theft l2",
        "passed smm", "harm rm", "least m", "turn rt", "again", "drawn do", "chance dhob", "judge l", "count 8", "keep k", "back k",
        "row lwi", "write liv", "paste lilii"};

    private final Random random;
    private final Texts texts;
    private final TurningMarket market = new TurningMarket();
    private final Mirror mirror = new Mirror();
    private final String name;
    private int left = CALLS;

    private RunTest(int seed) {
        random = new Random(seed);
        texts = new Texts(random);
        name = "run " + seed;
    }

    public static void main(String[] args) throws ReflectiveOperationException {
        wholeFace();
        for (int seed = 0; seed < RUNS; seed++) {
            new RunTest(seed).run();
        }
        DUE.finish();
    }

    private static void wholeFace() {
        Set<String> names = new TreeSet<>();
        for (String method : FACE) {
            names.add(method.split(" ")[0]);
        }
        int methods = 0;
        for (Method method : TurningMarket.class.getDeclaredMethods()) {
            boolean isPublic = Modifier.isPublic(method.getModifiers());
            methods += isPublic ? 1 : 0;
            DUE.due(method.getName() + " is called in the runs", !isPublic || names.contains(method.getName()) ? 1 : 0, 1);
        }
        DUE.due("methods that are called in the runs", names.size(), methods);
    }

    private void run() throws ReflectiveOperationException {
        while (left > 0) {
            boolean isTold = mirror.count(5) > 0;
            if (random.nextInt(isTold ? 60 : 4) == 0) {
                load(random.nextInt(4) == 0 ? texts.spoilt() : texts.market());
            } else if (random.nextInt(15) == 0 && isTold) {
                fill();
            } else {
                any();
            }
        }
    }

    private void call(String method, Object... given) throws ReflectiveOperationException {
        Class<?>[] types = new Class<?>[given.length];
        for (int i = 0; i < given.length; i++) {
            types[i] = given[i] instanceof Long ? long.class : int.class;
        }
        if (left > 0) {
            left--;
            Object got = TurningMarket.class.getMethod(method, types).invoke(market, given);
            Object due = Mirror.class.getMethod(method, types).invoke(mirror, given);
            DUE.due(name + ", with " + left + " calls left: " + method + Arrays.toString(given), (Integer) got, (Integer) due);
        }
    }

    private void load(String text) throws ReflectiveOperationException {
        call("end", 0);
        for (int i = 0; i < text.length(); i += 20) {
            Object[] five = new Object[5];
            for (int n = 0; n < 5; n++) {
                int number = 0;
                for (int j = i + 4 * n; j < i + 4 * n + 4; j++) {
                    number = number << 8 | (j < text.length() ? text.charAt(j) : 0);
                }
                five[n] = number;
            }
            call("feed", five);
        }
        call("end", text.length());
        call("market");
        call("fault", 0);
        call("fault", 1);
    }

    /** A row that is nearly right, for theft or for judge. */
    private void fill() throws ReflectiveOperationException {
        int slot = random.nextInt(4);
        boolean isTheft = random.nextBoolean();
        int n = isTheft ? mirror.count(3) : Math.min(20, mirror.all(0) + random.nextInt(2));
        call("row", slot, random.nextInt(4), n);
        for (int i = 0; i < n; i++) {
            int right = isTheft ? mirror.has(i, mirror.count(1) - 1) : mirror.sale(i, 3);
            call("write", slot, i, (long) (random.nextInt(9) == 0 ? random.nextInt(21) : right));
        }
        call(isTheft ? "theft" : "judge", isTheft ? new Object[] {slot, random.nextInt(3)} : new Object[] {slot});
    }

    private void any() throws ReflectiveOperationException {
        String[] method = FACE[random.nextInt(FACE.length)].split(" ");
        // a hundred hours of the mirror's take long
        if (method[0].equals("wise") && random.nextInt(6) != 0) {
            return;
        }
        String kinds = method.length == 1 ? "" : method[1];
        Object[] given = new Object[kinds.length()];
        for (int i = 0; i < given.length; i++) {
            given[i] = argument(kinds.charAt(i));
        }
        call(method[0], given);
    }

    private Object argument(char kind) {
        switch (kind) {
            case 's': return within(0, mirror.count(3) - 1);
            case 'b': return within(0, mirror.count(4) - 1);
            case 'r': return within(0, mirror.count(2) - 1);
            case 'p': return within(0, mirror.count(0) - 1);
            case 'm': return within(0, mirror.count(1) - 1);
            case 'l': return within(0, 3);
            case 'w': return within(0, random.nextBoolean() ? 0 : 3);
            case 'i': return within(0, random.nextInt(9) == 0 ? 60 : 4);
            case 'k': return within(0, 2);
            case '$': return within(0, random.nextBoolean() ? 20 : 99);
            case 't': return within(0, random.nextBoolean() ? 6 : 60);
            case 'd': return within(0, 2000000000);
            case 'h': return within(1, random.nextInt(9) == 0 ? 20 : 4);
            case 'o': return within(0, 100);
            case 'e': return within(0, Math.max(0, mirror.all(0)));
            case 'z': return within(0, mirror.count(6));
            case 'v': return random.nextBoolean() ? random.nextLong() : (long) random.nextInt(22);
            case 'x': return random.nextInt();
            default: return within(0, kind - '0');
        }
    }

    /** Most often a number from the one to the other, now and then just beyond or far off. */
    private int within(int low, int high) {
        int far = random.nextInt(40);
        if (far > 3 && high >= low) {
            return random.nextInt(4) == 0 ? (random.nextBoolean() ? low : high) : low + (int) (random.nextDouble() * (high - low + 1.0));
        }
        return far == 0 ? low - 1 : far == 1 ? high + 1 : far == 2 ? random.nextInt() : Integer.MAX_VALUE;
    }
}
