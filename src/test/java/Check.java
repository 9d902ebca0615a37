/** Counts answers that are not the ones that are due, and feeds texts. */
final class Check {
    private static int wrong = 0;
    private static int asked = 0;
    /** What runs now: told with each answer that is not as due. */
    static String where = "";

    private Check() { }

    static void due(String call, long got, long want) {
        asked++;
        if (got != want) {
            wrong++;
            if (wrong <= 40) {
                System.out.println(where + call + " answered " + got + ", due is " + want);
            }
        }
    }

    static void due(String call, boolean got, boolean want) {
        due(call, got ? 1 : 0, want ? 1 : 0);
    }

    /** A call that has a STATUS: both must be as is due. */
    static void due(RoundTrips x, String call, long got, long want, int status) {
        due(call, got, want);
        due("status() behind " + call, x.status(), status);
    }

    /** A call that answers NONE with this STATUS. */
    static void refused(RoundTrips x, String call, long got, int status) {
        due(x, call, got, -1, status);
    }

    static void feed(RoundTrips x, String text) {
        for (int at = 0; at < text.length(); at += 20) {
            x.feed(four(text, at), four(text, at + 4), four(text, at + 8), four(text, at + 12), four(text, at + 16));
        }
    }

    static int four(String text, int at) {
        int four = 0;
        for (int i = at; i < at + 4; i++) {
            four = four << 8 | (i < text.length() ? text.charAt(i) & 255 : 0);
        }
        return four;
    }

    static int load(RoundTrips x, String text) {
        feed(x, text);
        return x.load(text.length());
    }

    static RoundTrips loaded(String text) {
        RoundTrips x = new RoundTrips();
        load(x, text);
        due(x, "load of " + text, x.fault(0), 0, 0);
        return x;
    }

    static void faulty(String text, int kind, int place) {
        RoundTrips x = new RoundTrips();
        refused(x, "load of " + text, load(x, text), 9);
        due("fault(0) of " + text, x.fault(0), kind);
        due("fault(1) of " + text, x.fault(1), place);
    }

    static void end(String test) {
        System.out.println(test + ": " + asked + " answers, " + wrong + " wrong");
        if (wrong != 0) {
            System.exit(1);
        }
    }
}
