import java.lang.reflect.Method;
import java.lang.reflect.Modifier;
import java.util.ArrayList;
import java.util.Comparator;
import java.util.List;
import java.util.Random;

/** Every call, by numbers of every kind, in states of every kind: nothing is thrown, each STATUS is one that there is. */
public final class NoThrowTest {
    private static final int[] NUMBERS = {Integer.MIN_VALUE, Integer.MIN_VALUE + 1, -10000, -2, -1, 0, 1, 2, 3, 4, 5, 6, 7, 10, 11,
        12, 13, 31, 32, 33, 90, 91, 100, 780, 800, 801, 4095, 4096, 9998, 9999, 10000, 65536, Integer.MAX_VALUE - 1, Integer.MAX_VALUE};

    private NoThrowTest() { }

    private static Object argument(Class<?> type, Random random) {
        if (type == boolean.class) {
            return random.nextBoolean();
        }
        int way = random.nextInt(10);
        return way == 0 ? random.nextInt() : way < 4 ? NUMBERS[random.nextInt(NUMBERS.length)] : random.nextInt(way < 7 ? 5 : 13);
    }

    private static List<Method> calls() {
        List<Method> calls = new ArrayList<>();
        for (Method m : RoundTrips.class.getDeclaredMethods()) {
            if (Modifier.isPublic(m.getModifiers())) {
                calls.add(m);
            }
        }
        calls.sort(Comparator.comparing(Method::getName));
        return calls;
    }

    private static void run(int seed, List<Method> calls) {
        Random random = new Random(seed);
        RoundTrips x = new RoundTrips();
        if (seed % 2 == 0) {
            Check.load(x, "a b c d e f;longest 5;loss 90;gain 90;window 9999;");
        }
        for (int call = 60; call < 512; call++) {
            Method m = calls.get(random.nextInt(calls.size()));
            if (seed % 2 == 0 && random.nextInt(6) == 0) {
                x.pay(random.nextInt(6), random.nextInt(6), 1000 + random.nextInt(900), random.nextInt(40));
            }
            Object[] arguments = new Object[m.getParameterCount()];
            for (int i = 0; i < arguments.length; i++) {
                arguments[i] = argument(m.getParameterTypes()[i], random);
            }
            try {
                m.invoke(x, arguments);
            } catch (ReflectiveOperationException e) {
                Check.due("run " + seed + ": " + m.getName() + " threw " + e.getCause(), 1, 0);
            }
            Check.due("a STATUS", x.status() >= 0 && x.status() <= 9 && x.status() != 8, true);
        }
    }

    public static void main(String[] args) {
        List<Method> calls = calls();
        for (int seed = 0; seed < 400; seed++) {
            run(seed, calls);
        }
        Check.end("NoThrowTest");
    }
}
