import java.lang.reflect.InvocationTargetException;
import java.lang.reflect.Method;
import java.util.Map;
import java.util.TreeMap;
import java.util.TreeSet;

/** Runs the boundary tests of a class, each by its name; asks of a refused call that it changes nothing else. */
final class Edges {
    /** A call whose answer is looked at. */
    interface Call {
        long on(RoundTrips x);
    }

    /** Makes an object in the state that a test asks for, as often as it is wanted. */
    interface World {
        RoundTrips make();
    }

    // Which STATUS numbers each promise names, from promise 1 on.
    private static final int[][] NAMED = {{}, {}, {}, {1, 9}, {}, {1}, {1}, {1, 5}, {1, 2}, {3}, {1, 2, 3, 6}, {1, 5}, {2, 4},
        {1, 4}, {2, 6}, {5}, {3}, {5}, {1, 5}, {1, 5}, {1, 5}, {1, 5}, {1, 5}, {1, 2, 3, 6}, {1, 5}, {1, 5}, {1, 5}, {1, 5},
        {1}, {1, 5}, {1, 5}, {1, 2, 5, 6}, {1, 2, 5, 6}, {1, 2, 5, 6}, {1, 2}, {1, 2}, {1, 2}, {1}, {}, {1, 7}, {2}, {1, 5},
        {1}, {1}, {1, 5}};

    private static final Map<String, TreeSet<Integer>> SEEN = new TreeMap<>();
    private static String test = "";

    private Edges() { }

    /** Runs all tests of the class; each promise from first to last must have one, and each of its STATUS numbers too. */
    static void run(Class<?> tests, int first, int last) throws ReflectiveOperationException {
        TreeMap<String, Method> all = new TreeMap<>();
        for (Method m : tests.getDeclaredMethods()) {
            if (m.getName().matches("(promise\\d\\d|term\\d)_.*")) {
                all.put(m.getName(), m);
            }
        }
        for (Method m : all.values()) {
            test = m.getName().replaceAll("_.*", "");
            Check.where = m.getName() + ": ";
            SEEN.computeIfAbsent(test, t -> new TreeSet<>());
            try {
                m.invoke(null);
            } catch (InvocationTargetException e) {
                Check.due("threw " + e.getCause(), 1, 0);
            }
        }
        Check.where = "";
        for (int promise = first; promise <= last; promise++) {
            named(promise);
        }
        Check.end(tests.getSimpleName());
    }

    private static void named(int promise) {
        TreeSet<Integer> seen = SEEN.get(String.format("promise%02d", promise));
        Check.due("promise " + promise + " has a test", seen != null, true);
        for (int status : NAMED[promise - 1]) {
            Check.due("promise " + promise + ": a call with STATUS " + status, seen != null && seen.contains(status), true);
        }
    }

    /** The call answers NONE with this STATUS, and all is as if it had not been. */
    static void refused(World world, String name, int status, Call call) {
        refused(world, name, status, -1, call);
    }

    /** As refused(), of a call that answers true or false (1 or 0). */
    static void denied(World world, String name, int status, Call call) {
        refused(world, name, status, 0, call);
    }

    private static void refused(World world, String name, int status, int answer, Call call) {
        SEEN.computeIfAbsent(test, t -> new TreeSet<>()).add(status);
        RoundTrips x = world.make();
        Check.due(x, name, call.on(x), answer, status);
        same("behind " + name, x, world.make());
    }

    /** The call answers so with STATUS 0, and all is as if it had not been. */
    static void quiet(World world, String name, long want, Call call) {
        RoundTrips x = world.make();
        Check.due(x, name, call.on(x), want, 0);
        same("behind " + name, x, world.make());
    }

    /** Two objects are alike: what the text had as a FAULT, the book, each ACT undone, each MARK, and the tape. */
    static void same(String when, RoundTrips x, RoundTrips y) {
        Check.due("fault(0) " + when, x.fault(0), y.fault(0));
        Check.due("fault(1) " + when, x.fault(1), y.fault(1));
        sameText("the book " + when, picture(x), picture(y));
        sameText("the ACTS " + when, rewound(x), rewound(y));
        sameText("the MARKS " + when, marked(x), marked(y));
        int fed = y.feed(0, 0, 0, 0, 0);
        Check.due("the tape " + when, x.feed(0, 0, 0, 0, 0), fed);
        Check.due("the tape's text " + when, x.load(fed), y.load(fed));
        Check.due("the tape's FAULT " + when, x.fault(1), y.fault(1));
        sameText("the tape's book " + when, picture(x), picture(y));
    }

    private static void sameText(String what, String got, String want) {
        Check.due(what + " (" + got + " for " + want + ")", got.equals(want), true);
    }

    private static String rewound(RoundTrips x) {
        StringBuilder all = new StringBuilder();
        for (int left = x.undo(); left >= 0; left = x.undo()) {
            all.append(left).append(": ").append(picture(x)).append('\n');
        }
        return all.toString();
    }

    private static String marked(RoundTrips x) {
        StringBuilder all = new StringBuilder();
        for (int left = x.back(); left >= 0; left = x.back()) {
            all.append(left).append(": ").append(picture(x)).append('\n');
        }
        return all.toString();
    }

    /** The book as it is told by calls. */
    static String picture(RoundTrips x) {
        StringBuilder all = new StringBuilder();
        for (int what = 0; what <= 10; what++) {
            all.append(what == 0 ? "many " : " ").append(x.many(what));
        }
        for (int which = 0; which < 4; which++) {
            all.append(which == 0 ? " bounds " : " ").append(x.bounds(which));
        }
        int transfers = x.many(1);
        for (int t = 0; t < transfers; t++) {
            all.append("; ").append(x.transfer(t, 0)).append('>').append(x.transfer(t, 1)).append(' ')
                .append(x.transfer(t, 3)).append(" at ").append(x.transfer(t, 2));
        }
        return all.toString();
    }

    // ---- objects to begin with

    /** THREE ROUNDS (0 1 2, 0 3, 4 5), each its own ALARM; d is TRUSTED. */
    static final String THREE = "a b c d;pay a>b 1000 at 10;pay b>c 950 at 20;pay c>a 900 at 30;"
        + "pay b>a 1000 at 40;pay a>c 500 at 50;pay c>a 480 at 60;trust d;";

    /** THREE, some ACTS, two MARKS, and a text on the tape. */
    static RoundTrips market() {
        RoundTrips x = new RoundTrips();
        Check.load(x, THREE);
        x.mark();
        x.pay(3, 0, 7, 70);
        x.mark();
        x.bound(0, 90);
        Check.feed(x, "q r s;pay q>r 5 at 5");
        return x;
    }

    /** Nothing but a text on the tape, and a latest FAULT. */
    static RoundTrips empty() {
        RoundTrips x = new RoundTrips();
        Check.load(x, "q #");
        Check.feed(x, "q r;");
        return x;
    }

    /** 12 ACCOUNTS, 32 TRANSFERS, no ROUNDS. */
    static RoundTrips full() {
        RoundTrips x = new RoundTrips();
        Check.load(x, "a b c d e f g h i j k l;" + "pay a>b 1 at 1;".repeat(32));
        return x;
    }

    // ---- texts

    static final String TWELVE = "a b c d e f g h i j k l;";

    /** The line of a pay, by the numbers of ACCOUNTS that are a, b, c and so on. */
    static String pay(int from, int to, int amount, int time) {
        return "pay " + (char) ('a' + from) + '>' + (char) ('a' + to) + ' ' + amount + " at " + time + ';';
    }

    /** Twelve ACCOUNTS in a row: 11 TRANSFERS, at 0, 900 and so on. */
    static String row() {
        StringBuilder text = new StringBuilder(TWELVE);
        for (int a = 0; a < 11; a++) {
            text.append(pay(a, a + 1, 9, 900 * a));
        }
        return text.toString();
    }

    /** There and back between each two of the ACCOUNTS from first to last: each two are an ALARM. */
    static String eachTwo(int first, int last) {
        StringBuilder text = new StringBuilder(TWELVE + "longest 2;loss 0;");
        int much = 1;
        for (int one = first; one <= last; one++) {
            for (int other = one + 1; other <= last; other++, much++) {
                text.append(pay(one, other, much, 1)).append(pay(other, one, much, 2));
            }
        }
        return text.toString();
    }
}
