/** Boundary cases of promises 19 to 31: rounds, alarms. */
public final class RoundsEdgesTest {
    private static final int MIN = Integer.MIN_VALUE;
    private static final int MAX = Integer.MAX_VALUE;
    // Six pairs, each its own ALARM and CLUSTER: ROUND p is of the TRANSFERS p and 6 + p.
    private static final String SIX = "a b c d e f g h i j k l;pay a>b 9 at 1;pay c>d 9 at 1;pay e>f 9 at 1;pay g>h 9 at 1;"
        + "pay i>j 9 at 1;pay k>l 9 at 1;pay b>a 9 at 2;pay d>c 9 at 2;pay f>e 9 at 2;pay h>g 9 at 2;pay j>i 9 at 2;pay l>k 9 at 2;";

    private RoundsEdgesTest() { }

    private static void refused(String name, int status, Edges.Call call) {
        Edges.refused(Edges::market, name, status, call);
    }

    private static void atNone(String name, int status, Edges.Call call) {
        Edges.refused(Edges::empty, name, status, call);
        Edges.refused(Edges::full, name, status, call);
    }

    private static void quiet(String name, long want, Edges.Call call) {
        Edges.quiet(Edges::market, name, want, call);
    }

    // 16 times there, 16 times back: 256 ROUNDS of one RING.
    private static RoundTrips sixteen() {
        return Check.loaded("a b;" + "pay a>b 9 at 1;".repeat(16) + "pay b>a 9 at 2;".repeat(16));
    }

    // ---- 19: round

    static void promise19_roundAndWhat() {
        refused("round(-1, 0)", 1, x -> x.round(-1, 0));
        refused("round(MIN, 0)", 1, x -> x.round(MIN, 0));
        refused("round(0, -1)", 1, x -> x.round(0, -1));
        refused("round(0, 7)", 1, x -> x.round(0, 7));
        refused("round(0, MAX)", 1, x -> x.round(0, MAX));
        refused("round(3, 0)", 5, x -> x.round(3, 0));
        refused("round(MAX, 6)", 5, x -> x.round(MAX, 6));
        atNone("round(0, 0)", 5, x -> x.round(0, 0));
        int[] first = {3, 10, 30, 900, 0, Float.floatToIntBits(900f / 1000f), Float.floatToIntBits(2850f / 21f)};
        int[] last = {2, 50, 60, 480, 2, Float.floatToIntBits(480f / 500f), Float.floatToIntBits(980f / 11f)};
        for (int what = 0; what <= 6; what++) {
            int w = what;
            quiet("round(0, " + what + ")", first[what], x -> x.round(0, w));
            quiet("round(2, " + what + ")", last[what], x -> x.round(2, w));
        }
    }

    static void promise19_fewestAndMostTransfers() {
        RoundTrips x = Check.loaded("a b;pay a>b 1 at 9998;pay b>a 1 at 9999;");
        int[] two = {2, 9998, 9999, 1, 0, Float.floatToIntBits(1f), Float.floatToIntBits(1f)};
        for (int what = 0; what <= 6; what++) {
            Check.due(x, "round(0, " + what + ")", x.round(0, what), two[what], 0);
        }
        x = Check.loaded("a b c d e;longest 5;window 9999;pay e>d 9999 at 0;pay d>c 9999 at 1;pay c>b 9999 at 2;pay b>a 9999 at 3;"
            + "pay a>e 9999 at 9999;");
        int[] five = {5, 0, 9999, 9999, 0, Float.floatToIntBits(1f), Float.floatToIntBits(49995f / 10000f)};
        for (int what = 0; what <= 6; what++) {
            Check.due(x, "round(0, " + what + ")", x.round(0, what), five[what], 0);
        }
    }

    static void promise19_asManyAsThereAre() {
        RoundTrips x = sixteen();
        Check.due("many(3)", x.many(3), 256);
        Check.due(x, "round(255, 0)", x.round(255, 0), 2, 0);
        Check.refused(x, "round(256, 0)", x.round(256, 0), 5);
        Check.due("hop(255, 0)", x.hop(255, 0), 15);
        Check.due("hop(255, 1)", x.hop(255, 1), 31);
        Check.due("hop(16, 0)", x.hop(16, 0), 1);
        Check.due("hop(16, 1)", x.hop(16, 1), 16);
    }

    // ---- 20: hop

    static void promise20_roundAndI() {
        refused("hop(-1, 0)", 1, x -> x.hop(-1, 0));
        refused("hop(0, -1)", 1, x -> x.hop(0, -1));
        refused("hop(MIN, MAX)", 1, x -> x.hop(MIN, MAX));
        refused("hop(3, -1)", 1, x -> x.hop(3, -1));
        refused("hop(3, 0)", 5, x -> x.hop(3, 0));
        refused("hop(0, 3)", 5, x -> x.hop(0, 3));
        refused("hop(1, 2)", 5, x -> x.hop(1, 2));
        refused("hop(0, 5)", 5, x -> x.hop(0, 5));
        refused("hop(0, MAX)", 5, x -> x.hop(0, MAX));
        refused("hop(MAX, 0)", 5, x -> x.hop(MAX, 0));
        atNone("hop(0, 0)", 5, x -> x.hop(0, 0));
        quiet("hop(0, 0)", 0, x -> x.hop(0, 0));
        quiet("hop(0, 2)", 2, x -> x.hop(0, 2));
        quiet("hop(2, 1)", 5, x -> x.hop(2, 1));
        RoundTrips x = Check.loaded("a b c d e;longest 5;pay a>b 9 at 1;pay b>c 9 at 2;pay c>d 9 at 3;pay d>e 9 at 4;pay e>a 9 at 5;");
        for (int i = 0; i < 5; i++) {
            Check.due(x, "hop(0, " + i + ")", x.hop(0, i), i, 0);
        }
        Check.refused(x, "hop(0, 5)", x.hop(0, 5), 5);
    }

    // ---- 21: alarm

    static void promise21_alarmAndWhat() {
        refused("alarm(-1, 0)", 1, x -> x.alarm(-1, 0));
        refused("alarm(MIN, 4)", 1, x -> x.alarm(MIN, 4));
        refused("alarm(0, -1)", 1, x -> x.alarm(0, -1));
        refused("alarm(0, 5)", 1, x -> x.alarm(0, 5));
        refused("alarm(3, 5)", 1, x -> x.alarm(3, 5));
        refused("alarm(3, 0)", 5, x -> x.alarm(3, 0));
        refused("alarm(MAX, 4)", 5, x -> x.alarm(MAX, 4));
        atNone("alarm(0, 0)", 5, x -> x.alarm(0, 0));
        int[] first = {1, 3, 0, 900, 1};
        int[] last = {1, 2, 2, 480, 1};
        for (int what = 0; what <= 4; what++) {
            int w = what;
            quiet("alarm(0, " + what + ")", first[what], x -> x.alarm(0, w));
            quiet("alarm(2, " + what + ")", last[what], x -> x.alarm(2, w));
        }
    }

    static void promise21_manyRoundsOfOneAlarm() {
        RoundTrips x = sixteen();
        int[] due = {256, 2, 0, 256 * 9, 0};
        for (int what = 0; what <= 4; what++) {
            Check.due(x, "alarm(0, " + what + ")", x.alarm(0, what), due[what], 0);
        }
        Check.refused(x, "alarm(1, 0)", x.alarm(1, 0), 5);
        x = Check.loaded(SIX);
        Check.due(x, "alarm(5, 2)", x.alarm(5, 2), 5, 0);
        Check.refused(x, "alarm(6, 2)", x.alarm(6, 2), 5);
    }

    static void promise21_roundsThatShareNoTransfer() {
        String text = "a b;window 2;pay a>b 9 at 1;pay b>a 9 at 2;";
        Check.due("one alone", Check.loaded(text).alarm(0, 4), 1);
        text += "pay a>b 9 at 11;pay b>a 9 at 12;";
        Check.due("two apart", Check.loaded(text).alarm(0, 4), 2);
        Check.due("two of three share one", Check.loaded(text + "pay b>a 9 at 13;").alarm(0, 4), 1);
        Check.due("all share", Check.loaded(text + "pay b>a 9 at 13;pay a>b 9 at 3;").alarm(0, 4), 0);
        Check.due("the first two of three share one", Check.loaded("a b;window 2;pay a>b 9 at 1;pay b>a 9 at 2;pay b>a 9 at 3;"
            + "pay a>b 9 at 11;pay b>a 9 at 12;").alarm(0, 4), 1);
        // with a ROUND of another ALARM one may share
        RoundTrips x = Check.loaded("a b c;pay a>b 9 at 1;pay b>a 9 at 2;pay b>c 9 at 3;pay c>a 9 at 4;");
        Check.due("TRANSFER 0 is in both", x.transfer(0, 4), 2);
        Check.due("alarm(0, 4)", x.alarm(0, 4), 1);
        Check.due("alarm(1, 4)", x.alarm(1, 4), 1);
    }

    // Five bunches of ACCOUNTS (a b, c d, e f g, h i, j k l), each pays all of the next one: 72 RINGS of 5.
    private static RoundTrips bunches() {
        String[] bunches = {"ab", "cd", "efg", "hi", "jkl"};
        StringBuilder text = new StringBuilder("a b c d e f g h i j k l;longest 5;");
        for (int b = 0; b < 5; b++) {
            for (char from : bunches[b].toCharArray()) {
                for (char to : bunches[(b + 1) % 5].toCharArray()) {
                    text.append(Edges.pay(from - 'a', to - 'a', 9, b));
                }
            }
        }
        return Check.loaded(text.toString());
    }

    static void promise21_manyAlarms() {
        RoundTrips x = bunches();
        Check.due("ROUNDS", x.many(3), 72);
        Check.due("ALARMS", x.many(4), 72);
        for (int a = 0; a < 72; a++) {
            Check.due("alarm(" + a + ", 0)", x.alarm(a, 0), 1);
            Check.due("alarm(" + a + ", 1)", x.alarm(a, 1), 5);
            Check.due("alarm(" + a + ", 2)", x.alarm(a, 2), a);
            Check.due("alarm(" + a + ", 3)", x.alarm(a, 3), 9);
        }
        Check.refused(x, "alarm(72, 0)", x.alarm(72, 0), 5);
        x = bunches();
        for (int r = 0; r < 72; r++) {
            Check.due("round(" + r + ", 4)", x.round(r, 4), r);
        }
        Check.due("CLUSTERS", x.many(9), 1);
        Check.due("cluster(71)", x.cluster(71), 0);
        Check.due("ALARMS that STAND", x.standing(4, 1), 72);
        Check.due("each is of five", x.many(8), 0);
        Check.due("freeze()", x.freeze(), 3);
        Check.due("without(1 << 4)", x.without(1 << 4), 48);
        int[] in = {36, 36, 36, 36, 24, 24, 24, 36, 36, 24, 24, 24};
        for (int a = 0; a < 12; a++) {
            Check.due("account(" + a + ", 5)", x.account(a, 5), in[a]);
            Check.due("account(" + a + ", 6)", x.account(a, 6), in[a]);
        }
        x.trust(0, true);
        Check.due("ALARMS left", x.many(4), 36);
        x.undo();
        Check.due("ALARMS again", x.many(4), 72);
        Check.due("alarm(0, 3) again", x.alarm(0, 3), 9);
    }

    // ---- 22: ring

    static void promise22_alarmAndI() {
        refused("ring(-1, 0)", 1, x -> x.ring(-1, 0));
        refused("ring(0, -1)", 1, x -> x.ring(0, -1));
        refused("ring(MIN, MIN)", 1, x -> x.ring(MIN, MIN));
        refused("ring(3, -1)", 1, x -> x.ring(3, -1));
        refused("ring(3, 0)", 5, x -> x.ring(3, 0));
        refused("ring(0, 3)", 5, x -> x.ring(0, 3));
        refused("ring(1, 2)", 5, x -> x.ring(1, 2));
        refused("ring(0, 5)", 5, x -> x.ring(0, 5));
        refused("ring(0, MAX)", 5, x -> x.ring(0, MAX));
        refused("ring(MAX, 0)", 5, x -> x.ring(MAX, 0));
        atNone("ring(0, 0)", 5, x -> x.ring(0, 0));
        quiet("ring(0, 0)", 0, x -> x.ring(0, 0));
        quiet("ring(0, 2)", 2, x -> x.ring(0, 2));
        quiet("ring(2, 1)", 2, x -> x.ring(2, 1));
        RoundTrips x = Check.loaded(SIX);
        Check.due(x, "the last ACCOUNT", x.ring(5, 1), 11, 0);
        Check.refused(x, "behind it", x.ring(5, 2), 5);
        x = Check.loaded("a b c d e f g h i j k l;longest 5;pay l>k 9 at 1;pay k>j 9 at 2;pay j>i 9 at 3;pay i>h 9 at 4;pay h>l 9 at 5;");
        int[] five = {7, 11, 10, 9, 8};
        for (int i = 0; i < 5; i++) {
            Check.due(x, "ring(0, " + i + ")", x.ring(0, i), five[i], 0);
        }
        Check.refused(x, "ring(0, 5)", x.ring(0, 5), 5);
    }

    // ---- 23: closed

    static void promise23_transferAndI() {
        refused("closed(-1, 0)", 1, x -> x.closed(-1, 0));
        refused("closed(2, -1)", 1, x -> x.closed(2, -1));
        refused("closed(MIN, MAX)", 1, x -> x.closed(MIN, MAX));
        refused("closed(7, 0)", 5, x -> x.closed(7, 0));
        refused("closed(MAX, 0)", 5, x -> x.closed(MAX, 0));
        refused("closed(2, 1)", 5, x -> x.closed(2, 1));
        refused("closed(2, MAX)", 5, x -> x.closed(2, MAX));
        refused("it CLOSES none", 5, x -> x.closed(0, 0));
        atNone("closed(0, 0)", 5, x -> x.closed(0, 0));
        quiet("closed(2, 0)", 0, x -> x.closed(2, 0));
        quiet("closed(5, 0)", 2, x -> x.closed(5, 0));
        RoundTrips x = sixteen();
        for (int i = 0; i < 16; i++) {
            Check.due(x, "closed(31, " + i + ")", x.closed(31, i), 16 * i + 15, 0);
        }
        Check.refused(x, "closed(31, 16)", x.closed(31, 16), 5);
        Check.refused(x, "closed(32, 0)", x.closed(32, 0), 5);
        Check.due("the first that CLOSES any", x.closed(16, 0), 0);
        Check.refused(x, "closed(15, 0)", x.closed(15, 0), 5);
    }

    // ---- 24: would

    static void promise24_numbersThatCantBe() {
        refused("AMOUNT 0", 1, x -> x.would(0, 1, 0, 5));
        refused("AMOUNT -1", 1, x -> x.would(0, 1, -1, 5));
        refused("AMOUNT 10000", 1, x -> x.would(0, 1, 10000, 5));
        refused("TIME -1", 1, x -> x.would(0, 1, 5, -1));
        refused("TIME 10000", 1, x -> x.would(0, 1, 5, 10000));
        refused("FROM -1", 2, x -> x.would(-1, 1, 5, 5));
        refused("FROM 4", 2, x -> x.would(4, 1, 5, 5));
        refused("TO -1", 2, x -> x.would(1, -1, 5, 5));
        refused("TO 4", 2, x -> x.would(1, 4, 5, 5));
        refused("both are one", 6, x -> x.would(2, 2, 5, 5));
        Edges.refused(Edges::full, "a 33rd", 3, x -> x.would(1, 0, 1, 5));
        Edges.refused(Edges::empty, "no ACCOUNTS", 2, x -> x.would(0, 1, 5, 5));
        quiet("the least", 0, x -> x.would(0, 1, 1, 0));
        quiet("the greatest", 0, x -> x.would(0, 1, 9999, 9999));
    }

    static void promise24_nothingIsDone() {
        quiet("would(1, 0, 950, 35)", 1, x -> x.would(1, 0, 950, 35));
        quiet("would(2, 0, 900, 30)", 1, x -> x.would(2, 0, 900, 30));
        quiet("would(0, 1, 900, 0)", 0, x -> x.would(0, 1, 900, 0));
        RoundTrips x = Check.loaded("a b;" + "pay a>b 9 at 1;".repeat(31));
        Check.due(x, "a 32nd", x.would(1, 0, 9, 2), 31, 0);
        Check.due("TRANSFERS", x.many(1), 31);
    }

    static void promise24_behindAllOfItsTime() {
        RoundTrips x = Check.loaded("a b c;pay a>b 9 at 5;pay b>c 9 at 6;");
        Check.due("at its TIME no STEP", x.would(2, 0, 9, 6), 0);
        Check.due("a TIME later", x.would(2, 0, 9, 7), 1);
        Check.due("as far as WINDOW", x.would(2, 0, 9, 105), 1);
        Check.due("no farther", x.would(2, 0, 9, 106), 0);
        x.pay(2, 0, 9, 7);
        Check.due("one of like kind is not counted", x.would(2, 0, 9, 7), 1);
        Check.due("nor what it would begin", x.would(1, 2, 9, 6), 0);
        x = Check.loaded("a b;pay a>b 10 at 1;");
        Check.due("LOSS 10", x.would(1, 0, 9, 2), 1);
        Check.due("more", x.would(1, 0, 8, 2), 0);
        Check.due("GAIN 0", x.would(1, 0, 10, 2), 1);
        Check.due("more", x.would(1, 0, 11, 2), 0);
    }

    static void promise24_asPayWouldHaveIt() {
        RoundTrips x = Edges.market();
        for (int time = 30; time <= 110; time += 5) {
            int would = x.would(1, 0, 950, time);
            int t = x.pay(1, 0, 950, time);
            Check.due("at " + time, would, x.transfer(t, 5));
            x.undo();
        }
    }

    // ---- 25: top

    static void promise25_what() {
        refused("top(-1)", 1, x -> x.top(-1));
        refused("top(4)", 1, x -> x.top(4));
        refused("top(MIN)", 1, x -> x.top(MIN));
        refused("top(MAX)", 1, x -> x.top(MAX));
        int[] due = {0, 1, 0, 0};
        for (int what = 0; what <= 3; what++) {
            int w = what;
            atNone("top(" + what + ") without ROUNDS", 5, x -> x.top(w));
            quiet("top(" + what + ")", due[what], x -> x.top(w));
        }
        atNone("top(4) without ROUNDS", 1, x -> x.top(4));
    }

    static void promise25_ofSeveralTheFirst() {
        RoundTrips x = Check.loaded(SIX);
        for (int what = 0; what <= 3; what++) {
            Check.due("all alike", x.top(what), 0);
        }
        // the last one is the one: k, l in two ROUNDS; FLOW, PACE, KEPT of the last
        x = Check.loaded("a b c;loss 50;pay a>b 100 at 1;pay b>a 100 at 5;pay b>c 300 at 1;pay c>b 299 at 2;");
        int[] due = {1, 1, 1, 1};
        for (int what = 0; what <= 3; what++) {
            Check.due("top(" + what + ")", x.top(what), due[what]);
        }
        x = Check.loaded("a b;pay b>a 9 at 1;pay a>b 9 at 2;");
        for (int what = 0; what <= 3; what++) {
            Check.due("of one alone", x.top(what), 0);
        }
        Check.due("the last of twelve", Check.loaded("a b c d e f g h i j k l;pay l>k 9 at 1;pay k>l 9 at 2;pay l>j 8 at 1;"
            + "pay j>l 8 at 2;").top(0), 11);
    }

    static void promise25_theGreatestInTheMiddle() {
        // FLOW 5, 9, 7; PACE 10 by 2, 18 by 2, 14 by 2; KEPT 5 by 5, 9 by 10, 19 by 20
        RoundTrips x = Check.loaded("a b;window 3;pay a>b 5 at 1;pay b>a 5 at 2;pay a>b 10 at 11;pay b>a 9 at 12;"
            + "pay a>b 7 at 21;pay b>a 7 at 22;");
        for (int what = 1; what <= 3; what++) {
            Check.due("top(" + what + ")", x.top(what), 1);
        }
        // every KEPT above 1
        x = Check.loaded("a b;window 3;gain 50;pay a>b 100 at 1;pay b>a 140 at 2;pay a>b 100 at 11;pay b>a 120 at 12;"
            + "pay a>b 100 at 21;pay b>a 130 at 22;");
        Check.due("top(3)", x.top(3), 1);
        // in 1, 2, 1 ROUNDS
        x = Check.loaded("a b c;loss 0;pay a>b 9 at 1;pay b>a 9 at 2;pay c>b 8 at 1;pay b>c 8 at 2;");
        Check.due("top(0)", x.top(0), 1);
    }

    static void promise25_floatsCompared() {
        // PACE 20 by 3, 30 by 4 (greater), 30 by 4 again
        RoundTrips x = Check.loaded("a b;window 3;pay a>b 10 at 1;pay b>a 10 at 3;pay a>b 15 at 11;pay b>a 15 at 14;"
            + "pay a>b 15 at 21;pay b>a 15 at 24;");
        Check.due("top(2)", x.top(2), 1);
        // KEPT 9999 by 9999, 9998 by 9999, 9997 by 9998: the last one is less, but not as a float
        Check.due("alike as floats", 9998f / 9999f == 9997f / 9998f, true);
        x = Check.loaded("a b;window 3;pay a>b 9999 at 1;pay b>a 9999 at 2;pay a>b 9999 at 11;pay b>a 9998 at 12;"
            + "pay a>b 9998 at 21;pay b>a 9997 at 22;");
        Check.due("top(3)", x.top(3), 1);
        x = Check.loaded("a b;window 3;pay a>b 9999 at 1;pay b>a 9999 at 2;pay a>b 9999 at 11;pay b>a 9998 at 12;"
            + "pay a>b 9999 at 21;pay b>a 9997 at 22;");
        Check.due("top(3)", x.top(3), 2);
    }

    // ---- 26: left

    static void promise26_whichThereIs() {
        refused("left(-1)", 1, x -> x.left(-1));
        refused("left(MIN)", 1, x -> x.left(MIN));
        refused("left(7)", 5, x -> x.left(7));
        refused("left(MAX)", 5, x -> x.left(MAX));
        Edges.refused(Edges::full, "left(32)", 5, x -> x.left(32));
        Edges.refused(Edges::empty, "left(0)", 5, x -> x.left(0));
        quiet("left(0)", 0, x -> x.left(0));
        quiet("left(6)", 7, x -> x.left(6));
        Edges.quiet(Edges::full, "left(31)", 1, x -> x.left(31));
    }

    static void promise26_noneAndAllIsLeft() {
        RoundTrips x = sixteen();
        for (int t = 0; t < 32; t++) {
            Check.due("nothing", x.left(t), 0);
        }
        Check.due("NETTED", x.many(10), 16 * 9);
        x.trust(0, true);
        for (int t = 0; t < 32; t++) {
            Check.due("all", x.left(t), 9);
        }
        Check.due("NETTED", x.many(10), 0);
    }

    // ---- 27: cluster

    static void promise27_alarm() {
        refused("cluster(-1)", 1, x -> x.cluster(-1));
        refused("cluster(MIN)", 1, x -> x.cluster(MIN));
        refused("cluster(3)", 5, x -> x.cluster(3));
        refused("cluster(MAX)", 5, x -> x.cluster(MAX));
        atNone("cluster(0)", 5, x -> x.cluster(0));
        for (int a = 0; a < 3; a++) {
            int alarm = a;
            quiet("cluster(" + a + ")", 0, x -> x.cluster(alarm));
        }
        RoundTrips x = Check.loaded(SIX);
        for (int a = 0; a < 6; a++) {
            Check.due("its own", x.cluster(a), a);
        }
        Check.refused(x, "cluster(6)", x.cluster(6), 5);
    }

    static void promise27_turnAndTurnAbout() {
        RoundTrips x = Check.loaded("a b c d e f;loss 0;longest 2;pay a>b 1 at 1;pay d>e 2 at 1;pay b>c 3 at 1;pay e>f 4 at 1;"
            + "pay b>a 1 at 2;"
            + "pay e>d 2 at 2;pay c>b 3 at 2;pay f>e 4 at 2;");
        int[] due = {0, 1, 0, 1};
        for (int a = 0; a < 4; a++) {
            Check.due("cluster(" + a + ")", x.cluster(a), due[a]);
        }
        Check.due("CLUSTERS", x.many(9), 2);
    }

    static void promise27_fromOneToTheNext() {
        // a b, k l, then j k, i j, ..., b c: all hang together only by the last
        StringBuilder text = new StringBuilder(Edges.TWELVE + "longest 2;loss 0;pay a>b 1 at 1;pay b>a 1 at 2;");
        for (int a = 10; a > 1; a--) {
            int much = 13 - a;
            text.append(Edges.pay(a, a + 1, much, much)).append(Edges.pay(a + 1, a, much, much + 1));
        }
        RoundTrips x = Check.loaded(text.toString());
        Check.due("ten ALARMS", x.many(4), 10);
        Check.due("two CLUSTERS", x.many(9), 2);
        for (int a = 0; a < 10; a++) {
            Check.due("cluster(" + a + ")", x.cluster(a), a == 0 ? 0 : 1);
        }
        x.pay(1, 2, 500, 100);
        x.pay(2, 1, 500, 101);
        Check.due("one CLUSTER", x.many(9), 1);
        for (int a = 0; a < 11; a++) {
            Check.due("cluster(" + a + ")", x.cluster(a), 0);
        }
    }

    // ---- 28: hinge

    static void promise28_alarm() {
        refused("hinge(-1)", 1, x -> x.hinge(-1));
        refused("hinge(MIN)", 1, x -> x.hinge(MIN));
        refused("hinge(3)", 5, x -> x.hinge(3));
        refused("hinge(MAX)", 5, x -> x.hinge(MAX));
        atNone("hinge(0)", 5, x -> x.hinge(0));
        int[] due = {0, 0, 4};
        for (int a = 0; a < 3; a++) {
            int alarm = a;
            quiet("hinge(" + a + ")", due[a], x -> x.hinge(alarm));
        }
        Edges.refused(RoundsEdgesTest::sixteen, "none is in all", 5, x -> x.hinge(0));
    }

    static void promise28_theLastTransferOfAll() {
        RoundTrips x = Check.loaded("a b;" + "pay a>b 9 at 1;".repeat(31) + "pay b>a 9 at 2;");
        Check.due(x, "hinge(0)", x.hinge(0), 31, 0);
        x = Check.loaded("a b;pay a>b 9 at 1;" + "pay b>a 9 at 2;".repeat(31));
        Check.due(x, "hinge(0)", x.hinge(0), 0, 0);
        // TRANSFER 1 is in both ROUNDS of the second ALARM, 0 in those of the first
        x = Check.loaded("a b c d;pay a>b 9 at 1;pay c>d 9 at 1;pay b>a 9 at 2;pay b>a 9 at 2;pay d>c 9 at 2;pay d>c 9 at 2;");
        Check.due("hinge(0)", x.hinge(0), 0);
        Check.due("hinge(1)", x.hinge(1), 1);
    }

    // ---- 29: standing

    static void promise29_timeAndWhat() {
        refused("standing(-1, 0)", 1, x -> x.standing(-1, 0));
        refused("standing(10000, 0)", 1, x -> x.standing(10000, 0));
        refused("standing(MIN, 1)", 1, x -> x.standing(MIN, 1));
        refused("standing(MAX, 1)", 1, x -> x.standing(MAX, 1));
        refused("standing(0, -1)", 1, x -> x.standing(0, -1));
        refused("standing(0, 2)", 1, x -> x.standing(0, 2));
        int[] times = {0, 29, 30, 40, 60, 120, 121, 130, 131, 150, 151, 9999};
        int[] due = {0, 0, 1, 2, 3, 3, 2, 2, 1, 1, 0, 0};
        for (int i = 0; i < times.length; i++) {
            int time = times[i];
            quiet("standing(" + time + ", 0)", due[i], x -> x.standing(time, 0));
            quiet("standing(" + time + ", 1)", due[i], x -> x.standing(time, 1));
        }
        Edges.quiet(Edges::empty, "none", 0, x -> x.standing(0, 0));
        Edges.quiet(Edges::empty, "none", 0, x -> x.standing(9999, 1));
    }

    static void promise29_roundsAndAlarms() {
        RoundTrips x = sixteen();
        Check.due("ROUNDS", x.standing(2, 0), 256);
        Check.due("ALARMS", x.standing(2, 1), 1);
        Check.due("ROUNDS", x.standing(102, 0), 256);
        Check.due("ROUNDS", x.standing(103, 0), 0);
        x = Check.loaded(SIX);
        Check.due("ROUNDS", x.standing(2, 0), 6);
        Check.due("ALARMS", x.standing(2, 1), 6);
        Check.due("asked again", x.standing(2, 1), 6);
        Check.due("none", x.standing(1, 1), 0);
        x = Check.loaded("a b;pay a>b 9 at 9998;pay b>a 9 at 9999;");
        Check.due("at 9,999", x.standing(9999, 0), 1);
        Check.due("at 9,998", x.standing(9998, 0), 0);
    }

    // ---- 30: peak

    static void promise30_what() {
        refused("peak(-1)", 1, x -> x.peak(-1));
        refused("peak(2)", 1, x -> x.peak(2));
        refused("peak(MIN)", 1, x -> x.peak(MIN));
        refused("peak(MAX)", 1, x -> x.peak(MAX));
        atNone("peak(0)", 5, x -> x.peak(0));
        atNone("peak(1)", 5, x -> x.peak(1));
        atNone("peak(2)", 1, x -> x.peak(2));
        quiet("peak(0)", 3, x -> x.peak(0));
        quiet("peak(1)", 60, x -> x.peak(1));
    }

    static void promise30_theFirstSuchTime() {
        String two = "a b;window 8;pay a>b 9 at 1;pay b>a 9 at 2;";
        RoundTrips x = Check.loaded(two + "pay a>b 8 at 9;pay b>a 8 at 10;");
        Check.due("both at one TIME", x.peak(0), 2);
        Check.due("then, too", x.peak(1), 10);
        x = Check.loaded(two + "pay a>b 8 at 10;pay b>a 8 at 11;");
        Check.due("never both", x.peak(0), 1);
        Check.due("the first", x.peak(1), 2);
        x = Check.loaded("a b;window 9999;pay a>b 9 at 1;pay b>a 9 at 2;pay a>b 8 at 9998;pay b>a 8 at 9999;");
        Check.due("at 9,999", x.peak(1), 9999);
        Check.due("both", x.peak(0), 2);
        x = Check.loaded("a b;pay a>b 9 at 0;pay b>a 9 at 1;");
        Check.due("at 1", x.peak(1), 1);
        x = sixteen();
        Check.due("256", x.peak(0), 256);
        Check.due("at 2", x.peak(1), 2);
    }

    // ---- 31: ranked

    static void promise31_i() {
        refused("ranked(-1)", 1, x -> x.ranked(-1));
        refused("ranked(MIN)", 1, x -> x.ranked(MIN));
        refused("ranked(4)", 5, x -> x.ranked(4));
        refused("ranked(MAX)", 5, x -> x.ranked(MAX));
        Edges.refused(Edges::empty, "ranked(0)", 5, x -> x.ranked(0));
        Edges.refused(Edges::full, "ranked(12)", 5, x -> x.ranked(12));
        // HEAT: a 3 by 7, b 2 by 4, c 2 by 5, d 0
        int[] due = {1, 0, 2, 3};
        for (int i = 0; i < 4; i++) {
            int place = i;
            quiet("ranked(" + i + ")", due[i], x -> x.ranked(place));
        }
        for (int i = 0; i < 12; i++) {
            int place = i;
            Edges.quiet(Edges::full, "of like ones the least", i, x -> x.ranked(place));
        }
    }

    static void promise31_likeOnesAndUnlikeOnes() {
        RoundTrips x = Check.loaded("a b c d e;pay d>e 9 at 1;pay e>d 9 at 2;pay b>c 9 at 1;pay c>b 9 at 2;pay b>a 1 at 1;");
        // HEAT: d, e, c 1 by 3; b 1 by 4; a 0
        int[] due = {2, 3, 4, 1, 0};
        for (int i = 0; i < due.length; i++) {
            Check.due(x, "ranked(" + i + ")", x.ranked(i), due[i], 0);
        }
        // like by numbers unlike: 1 by 3 and 2 by 6
        x = Check.loaded("a b c d e f;loss 0;pay a>b 9 at 1;pay b>a 9 at 2;pay c>d 8 at 1;pay d>c 8 at 2;pay d>c 8 at 2;"
            + "pay d>e 3 at 1;pay e>d 1 at 2;");
        Check.due("HEAT of d", x.heat(3), Float.floatToIntBits(2f / 6f));
        Check.due("HEAT of c", x.heat(2), Float.floatToIntBits(2f / 4f));
        int[] like = {2, 0, 1, 3, 4, 5};
        for (int i = 0; i < like.length; i++) {
            Check.due(x, "ranked(" + i + ")", x.ranked(i), like[i], 0);
        }
    }

    public static void main(String[] args) throws ReflectiveOperationException {
        Edges.run(RoundsEdgesTest.class, 19, 31);
    }
}
