import java.lang.management.ManagementFactory;
import java.lang.reflect.InvocationTargetException;
import java.lang.reflect.Method;
import java.util.Arrays;
import java.util.Comparator;
import java.util.Random;

/** Any call in any state answers, for as many calls as an object has; the same calls answer the same; none makes new objects. */
public final class WildTest {
    private static final Due DUE = new Due("WildTest");
    private static final int CALLS = 512;
    private static final int[] WILD = {Integer.MIN_VALUE, Integer.MAX_VALUE, -1, 60, 61, 99, 100, 2000000000, 0x20202020, 1 << 30};

    public static void main(String[] args) throws ReflectiveOperationException {
        Method[] face = Arrays.stream(TurningMarket.class.getMethods())
            .filter(m -> m.getDeclaringClass() == TurningMarket.class).toArray(Method[]::new);
        Arrays.sort(face, Comparator.comparing(Method::getName));
        for (int seed = 0; seed < 400; seed++) {
            wildRun(face, seed);
        }
        room();
        DUE.finish();
    }

    private static void wildRun(Method[] face, int seed) throws ReflectiveOperationException {
        Random random = new Random(seed);
        Texts texts = new Texts(random);
        TurningMarket x = new TurningMarket();
        TurningMarket y = new TurningMarket();
        int left = CALLS;
        while (left > 0) {
            String text = random.nextInt(3) == 0 ? texts.spoilt() : texts.market();
            if (random.nextInt(20) == 0 && Due.callsOfLoad(text) < left) {
                DUE.due("market()", Due.load(x, text), Due.load(y, text));
                left -= Due.callsOfLoad(text);
            }
            left--;
            Method method = face[random.nextInt(face.length)];
            Object[] given = arguments(method, random);
            String name = "run " + seed + ": " + method.getName() + Arrays.toString(given);
            try {
                int answer = (Integer) method.invoke(x, given);
                DUE.due(name, answer, (Integer) method.invoke(y, given));
            } catch (InvocationTargetException e) {
                DUE.due(name + " threw " + e.getCause(), 1, 0);
            }
        }
    }

    private static Object[] arguments(Method method, Random random) {
        Class<?>[] types = method.getParameterTypes();
        Object[] given = new Object[types.length];
        for (int i = 0; i < types.length; i++) {
            int n = random.nextInt(12) == 0 ? WILD[random.nextInt(WILD.length)] : random.nextInt(random.nextBoolean() ? 4 : 13) - 1;
            given[i] = types[i] == long.class ? (Object) (long) n : (Object) n;
        }
        return given;
    }

    private static void room() {
        com.sun.management.ThreadMXBean threads = (com.sun.management.ThreadMXBean) ManagementFactory.getThreadMXBean();
        long id = Thread.currentThread().getId();
        long before = threads.getThreadAllocatedBytes(id);
        TurningMarket x = new TurningMarket();
        long made = threads.getThreadAllocatedBytes(id) - before;
        DUE.due("an object of " + made + " bytes is small", made < 60000 ? 1 : 0, 1);
        Due.load(x, Markets.SMALL);
        dearest(x);
        before = threads.getThreadAllocatedBytes(id);
        for (int n = 0; n < 38; n++) {
            dearest(x);
        }
        long more = threads.getThreadAllocatedBytes(id) - before;
        DUE.due("calls that make " + more + " bytes make nothing", more < 500 ? 1 : 0, 1);
    }

    private static void dearest(TurningMarket x) {
        x.wise(0);
        x.chance(1, 20, 50, 0);
        x.swap(0);
        x.harm(0, 0);
        x.best(0);
        x.send(0, 1, 0, 0);
        x.feed(1, 2, 3, 4, 5);
        x.keep(0);
        x.row(0, 3, 60);
        x.theft(0, 0);
        x.market();
        x.back(0);
    }
}
