/** Promises 19 to 31, and the words STEP, ROUND, RING, ALARM, WITNESS under them. */
public final class RoundsTest {
    // ROUNDS: 0 1 2, 0 3, 4 5: three ALARMS.
    private static final String THREE = "a b c;pay a>b 1000 at 10;pay b>c 950 at 20;pay c>a 900 at 30;"
        + "pay b>a 1000 at 40;pay a>c 500 at 50;pay c>a 480 at 60;";
    // ROUNDS: 0 2, 0 3, 1 2, 1 3: one ALARM.
    private static final String FOUR = "a b;gain 90;loss 90;pay a>b 100 at 1;pay a>b 90 at 3;"
        + "pay b>a 80 at 5;pay b>a 120 at 7;";

    private RoundsTest() { }

    private static void rounds(String text, int want) {
        Check.due("many(3) of " + text, Check.loaded(text).many(3), want);
    }

    private static void steps() {
        String pair = "a b;pay a>b 1000 at 1;";
        rounds(pair + "pay b>a 1000 at 2;", 1);
        rounds(pair + "pay b>a 1000 at 1;", 0);
        rounds("a b;pay b>a 1000 at 1;pay a>b 1000 at 1;", 0);
        rounds(pair + "pay b>a 900 at 2;", 1);
        rounds(pair + "pay b>a 899 at 2;", 0);
        rounds(pair + "pay b>a 1001 at 2;", 0);
        rounds(pair + "loss 0;pay b>a 999 at 2;", 0);
        rounds(pair + "loss 90;pay b>a 100 at 2;", 1);
        rounds(pair + "loss 90;pay b>a 99 at 2;", 0);
        rounds(pair + "gain 10;pay b>a 1100 at 2;", 1);
        rounds(pair + "gain 10;pay b>a 1101 at 2;", 0);
        rounds("a b;pay a>b 1001 at 1;pay b>a 901 at 2;", 1);
        rounds("a b;pay a>b 1001 at 1;pay b>a 900 at 2;", 0);
        rounds("a b;gain 90;loss 90;window 9999;pay a>b 9999 at 0;pay b>a 9999 at 9999;", 1);
    }

    private static void whatIsARound() {
        String pair = "a b;pay a>b 9 at 1;";
        rounds(pair + "pay b>a 9 at 101;", 1);
        rounds(pair + "pay b>a 9 at 102;", 0);
        rounds(pair + "window 1;pay b>a 9 at 2;", 1);
        rounds(pair + "window 0;pay b>a 9 at 2;", 0);
        rounds(pair + "trust a;pay b>a 9 at 2;", 0);
        rounds(pair + "trust b;pay b>a 9 at 2;", 0);
        String five = "a b c d e;pay a>b 9 at 1;pay b>c 9 at 2;pay c>d 9 at 3;pay d>e 9 at 4;pay e>a 9 at 5;";
        rounds(five, 0);
        rounds(five + "longest 5;", 1);
        rounds(five + "longest 5;trust c;", 0);
        rounds(five + "longest 5;trust e;", 0);
        rounds("f " + five + "longest 5;pay e>f 9 at 5;pay f>a 9 at 6;", 1);
        rounds("a b c;longest 2;pay a>b 9 at 1;pay b>c 9 at 2;pay b>a 9 at 3;pay c>a 9 at 4;", 1);
        rounds("a b c;longest 3;pay a>b 9 at 1;pay b>c 9 at 2;pay b>a 9 at 3;pay c>a 9 at 4;", 2);
        rounds("a b c;pay a>b 9 at 1;pay b>c 9 at 2;pay c>b 9 at 3;pay b>a 9 at 4;", 2);
        rounds("a b c;pay a>b 9 at 1;pay b>a 9 at 2;pay a>c 9 at 3;pay c>a 9 at 4;", 2);
        rounds("a b c;pay a>b 9 at 3;pay b>c 9 at 2;pay c>a 9 at 1;", 0);
    }

    private static void round() {
        RoundTrips x = Check.loaded(THREE);
        int kept = Float.floatToIntBits(900f / 1000f);
        int pace = Float.floatToIntBits(2850f / 21f);
        int[] due = {3, 10, 30, 900, 0, kept, pace};
        for (int what = 0; what < due.length; what++) {
            Check.due(x, "round(0, " + what + ")", x.round(0, what), due[what], 0);
        }
        Check.due("round(1, 5)", x.round(1, 5), Float.floatToIntBits(1f));
        Check.due("round(1, 6)", x.round(1, 6), Float.floatToIntBits(2000f / 31f));
        Check.due("round(2, 4)", x.round(2, 4), 2);
        Check.due("round(2, 5)", x.round(2, 5), Float.floatToIntBits(480f / 500f));
        Check.refused(x, "round(3, 0)", x.round(3, 0), 5);
        Check.refused(x, "round(-1, 0)", x.round(-1, 0), 1);
        Check.refused(x, "round(0, -1)", x.round(0, -1), 1);
        Check.refused(x, "round(0, 7)", x.round(0, 7), 1);
        Check.refused(x, "round(3, 7)", x.round(3, 7), 1);
        x = Check.loaded("a b;gain 90;pay a>b 5263 at 1;pay b>a 9999 at 2;pay a>b 9999 at 3;pay b>a 9999 at 4;");
        Check.due("round(0, 5)", x.round(0, 5), Float.floatToIntBits(9999f / 5263f));
        Check.due("round(0, 3)", x.round(0, 3), 5263);
        Check.due("round(0, 6)", x.round(0, 6), Float.floatToIntBits(15262f / 2f));
        x = Check.loaded("a b c d e;loss 90;longest 5;window 9999;pay a>b 9999 at 0;pay b>c 1000 at 5;pay c>d 100 at 6;"
            + "pay d>e 10 at 7;pay e>a 1 at 9999;");
        Check.due("round(0, 5)", x.round(0, 5), Float.floatToIntBits(1f / 9999f));
        Check.due("round(0, 6)", x.round(0, 6), Float.floatToIntBits(11110f / 10000f));
        x = Check.loaded("a b;pay a>b 1 at 0;pay b>a 1 at 1;");
        Check.due("round(0, 5)", x.round(0, 5), Float.floatToIntBits(1f));
        Check.due("round(0, 6)", x.round(0, 6), Float.floatToIntBits(1f));
        x = Check.loaded("a b;loss 90;window 9999;pay a>b 2 at 0;pay b>a 1 at 9999;");
        Check.due("round(0, 6)", x.round(0, 6), Float.floatToIntBits(3f / 10000f));
    }

    private static void hop() {
        RoundTrips x = Check.loaded(THREE);
        int[][] due = {{0, 1, 2}, {0, 3}, {4, 5}};
        for (int r = 0; r < due.length; r++) {
            for (int i = 0; i < due[r].length; i++) {
                Check.due(x, "hop(" + r + ", " + i + ")", x.hop(r, i), due[r][i], 0);
            }
            Check.refused(x, "hop behind the last", x.hop(r, due[r].length), 5);
        }
        Check.refused(x, "hop(0, 5)", x.hop(0, 5), 5);
        Check.refused(x, "hop(0, 2147483647)", x.hop(0, Integer.MAX_VALUE), 5);
        Check.refused(x, "hop(3, 0)", x.hop(3, 0), 5);
        Check.refused(x, "hop(3, -1)", x.hop(3, -1), 1);
        Check.refused(x, "hop(-1, 0)", x.hop(-1, 0), 1);
        // numbered by the first TRANSFER, then the next one: not by how many there are
        x = Check.loaded("a b c;pay a>b 9 at 1;pay b>c 9 at 2;pay b>a 9 at 3;pay c>a 9 at 4;pay c>b 9 at 5;");
        int[][] order = {{0, 1, 3}, {0, 2}, {1, 4}};
        for (int r = 0; r < order.length; r++) {
            for (int i = 0; i < order[r].length; i++) {
                Check.due("hop(" + r + ", " + i + ")", x.hop(r, i), order[r][i]);
            }
        }
    }

    private static void alarm() {
        RoundTrips x = Check.loaded(FOUR);
        int[] due = {4, 2, 2, 80 + 100 + 80 + 90, 0};
        for (int what = 0; what < due.length; what++) {
            Check.due(x, "alarm(0, " + what + ")", x.alarm(0, what), due[what], 0);
        }
        Check.refused(x, "alarm(1, 0)", x.alarm(1, 0), 5);
        Check.refused(x, "alarm(-1, 0)", x.alarm(-1, 0), 1);
        Check.refused(x, "alarm(0, -1)", x.alarm(0, -1), 1);
        Check.refused(x, "alarm(0, 5)", x.alarm(0, 5), 1);
        Check.refused(x, "alarm(1, 5)", x.alarm(1, 5), 1);
        x = Check.loaded("a b;window 5;pay a>b 9 at 1;pay b>a 9 at 4;pay b>a 9 at 10;pay a>b 9 at 12;pay b>a 9 at 14;");
        Check.due("many(3)", x.many(3), 3);
        Check.due("many(4)", x.many(4), 1);
        Check.due("of several the first: 2 3, 3 4", x.alarm(0, 2), 1);
        Check.due("ROUND 0 1 alone", x.alarm(0, 4), 1);
        x = Check.loaded(THREE);
        Check.due("alarm(0, 1)", x.alarm(0, 1), 3);
        Check.due("alarm(1, 2)", x.alarm(1, 2), 1);
        Check.due("alarm(2, 4)", x.alarm(2, 4), 1);
    }

    private static void ring() {
        RoundTrips x = Check.loaded("a b c d;pay d>b 9 at 1;pay b>c 9 at 2;pay c>d 9 at 3;"
            + "pay d>c 9 at 4;pay c>b 9 at 5;pay b>d 9 at 6;");
        int[][] due = {{1, 2, 3}, {1, 3}, {1, 2}, {2, 3}, {1, 3, 2}};
        Check.due("many(4)", x.many(4), 5);
        for (int a = 0; a < due.length; a++) {
            for (int i = 0; i < due[a].length; i++) {
                Check.due(x, "ring(" + a + ", " + i + ")", x.ring(a, i), due[a][i], 0);
            }
            Check.refused(x, "ring behind the last", x.ring(a, due[a].length), 5);
        }
        Check.refused(x, "ring(5, 0)", x.ring(5, 0), 5);
        Check.refused(x, "ring(0, 5)", x.ring(0, 5), 5);
        Check.refused(x, "ring(0, -1)", x.ring(0, -1), 1);
        Check.refused(x, "ring(-1, 0)", x.ring(-1, 0), 1);
        // the same RING from another ACCOUNT on is the same ALARM
        x = Check.loaded("a b c;pay b>c 9 at 1;pay c>a 9 at 2;pay a>b 9 at 3;pay b>c 9 at 4;");
        Check.due("many(3)", x.many(3), 2);
        Check.due("many(4)", x.many(4), 1);
        Check.due("ring(0, 0)", x.ring(0, 0), 0);
        Check.due("round(1, 4)", x.round(1, 4), 0);
        x = Check.loaded("a b c d e f g h i j k l;longest 5;pay l>h 9 at 1;pay h>k 9 at 2;pay k>i 9 at 3;pay i>j 9 at 4;"
            + "pay j>l 9 at 5;");
        int[] five = {7, 10, 8, 9, 11};
        for (int i = 0; i < 5; i++) {
            Check.due("ring(0, " + i + ")", x.ring(0, i), five[i]);
        }
    }

    private static void closed() {
        RoundTrips x = Check.loaded(FOUR);
        Check.due(x, "closed(2, 0)", x.closed(2, 0), 0, 0);
        Check.due(x, "closed(2, 1)", x.closed(2, 1), 2, 0);
        Check.refused(x, "closed(2, 2)", x.closed(2, 2), 5);
        Check.due("closed(3, 1)", x.closed(3, 1), 3);
        Check.refused(x, "closed(0, 0)", x.closed(0, 0), 5);
        Check.refused(x, "closed(4, 0)", x.closed(4, 0), 5);
        Check.refused(x, "closed(-1, 0)", x.closed(-1, 0), 1);
        Check.refused(x, "closed(4, -1)", x.closed(4, -1), 1);
    }

    private static void would() {
        RoundTrips x = Check.loaded("a b c;pay a>b 1000 at 10;pay b>c 950 at 20;pay c>b 900 at 25;pay a>b 990 at 30;");
        Check.due(x, "would(1, 0, 950, 30)", x.would(1, 0, 950, 30), 1, 0);
        Check.due(x, "would(1, 0, 950, 31)", x.would(1, 0, 950, 31), 2, 0);
        Check.due("would(1, 0, 891, 31)", x.would(1, 0, 891, 31), 1);
        Check.due("would(2, 0, 900, 31)", x.would(2, 0, 900, 31), 1);
        Check.due("would(2, 0, 900, 20)", x.would(2, 0, 900, 20), 0);
        Check.due("would(2, 1, 900, 21)", x.would(2, 1, 900, 21), 1);
        Check.due("it closes none as the first", x.would(1, 2, 900, 24), 0);
        Check.due("would(2, 0, 900, 110)", x.would(2, 0, 900, 110), 1);
        Check.due("would(2, 0, 900, 111)", x.would(2, 0, 900, 111), 0);
        Check.due("nothing is done", x.many(1), 4);
        Check.due("nothing is done", x.many(5), 1);
        Check.due("nothing is done", x.many(3), 1);
        Check.refused(x, "AMOUNT 0", x.would(0, 1, 0, 1), 1);
        Check.refused(x, "AMOUNT 10000", x.would(0, 1, 10000, 1), 1);
        Check.refused(x, "TIME -1", x.would(0, 1, 1, -1), 1);
        Check.refused(x, "TIME 10000", x.would(0, 3, 1, 10000), 1);
        Check.refused(x, "TO 3", x.would(0, 3, 1, 1), 2);
        Check.refused(x, "FROM -1", x.would(-1, 0, 1, 1), 2);
        Check.refused(x, "both are one", x.would(1, 1, 1, 1), 6);
        x.trust(1, true);
        Check.due("TRUSTED", x.would(2, 0, 900, 31), 0);
        x = Check.loaded("a b;" + "pay a>b 1 at 1;".repeat(32));
        Check.refused(x, "one too many", x.would(1, 0, 1, 2), 3);
        Check.refused(x, "one too many", x.would(1, 1, 1, 2), 3);
        x.strike(31);
        Check.due(x, "would(1, 0, 1, 2)", x.would(1, 0, 1, 2), 31, 0);
    }

    private static void top() {
        RoundTrips x = Check.loaded(THREE);
        int[] due = {0, 1, 0, 0};
        for (int what = 0; what < due.length; what++) {
            Check.due(x, "top(" + what + ")", x.top(what), due[what], 0);
        }
        Check.refused(x, "top(-1)", x.top(-1), 1);
        Check.refused(x, "top(4)", x.top(4), 1);
        x.strike(2);
        Check.due("top(0): of a and b, a and c the first", x.top(0), 0);
        x = Check.loaded("a b c d;longest 2;pay c>d 100 at 1;pay d>c 95 at 3;pay b>c 100 at 11;pay c>b 95 at 13;"
            + "pay a>b 100 at 21;pay b>a 90 at 22;pay d>a 100 at 31;pay a>d 90 at 32;");
        Check.due("top(0): of several the least", x.top(0), 0);
        Check.due("top(1): of several the first", x.top(1), 0);
        Check.due("top(2): of several the first", x.top(2), 2);
        Check.due("top(3): of several the first", x.top(3), 2);
        x = Check.loaded("a b;pay a>b 1 at 1;");
        for (int what = 0; what < 4; what++) {
            Check.refused(x, "top(" + what + ") without ROUNDS", x.top(what), 5);
        }
        Check.refused(x, "top(4)", x.top(4), 1);
    }

    private static void left() {
        RoundTrips x = Check.loaded(FOUR);
        // 80 by 0 2; then 0 has 20, 3 has 120: 20 by 0 3; nothing by 1 2; 90 by 1 3
        int[] due = {0, 0, 0, 10};
        for (int t = 0; t < due.length; t++) {
            Check.due(x, "left(" + t + ")", x.left(t), due[t], 0);
        }
        Check.due("many(10)", x.many(10), 190);
        Check.refused(x, "left(-1)", x.left(-1), 1);
        Check.refused(x, "left(4)", x.left(4), 5);
        x.pay(1, 0, 7, 9999);
        Check.due("in no ROUND", x.left(4), 7);
    }

    private static void cluster() {
        RoundTrips x = Check.loaded("a b c d e f;pay a>b 9 at 1;pay b>a 9 at 2;pay c>d 9 at 3;pay d>c 9 at 4;"
            + "pay e>f 9 at 5;pay f>e 9 at 6;pay d>a 9 at 7;pay a>d 9 at 8;");
        int[] due = {0, 0, 2, 0};
        for (int a = 0; a < due.length; a++) {
            Check.due(x, "cluster(" + a + ")", x.cluster(a), due[a], 0);
        }
        Check.due("many(9)", x.many(9), 2);
        Check.refused(x, "cluster(4)", x.cluster(4), 5);
        Check.refused(x, "cluster(-1)", x.cluster(-1), 1);
        // a chain whose links come last
        x = Check.loaded("a b c d e f;pay a>b 9 at 1;pay b>a 9 at 2;pay e>f 9 at 3;pay f>e 9 at 4;"
            + "pay d>e 9 at 5;pay e>d 9 at 6;pay c>d 9 at 7;pay d>c 9 at 8;pay b>c 9 at 9;pay c>b 9 at 10;");
        for (int a = 0; a < 5; a++) {
            Check.due("cluster(" + a + ")", x.cluster(a), 0);
        }
        Check.due("many(9)", x.many(9), 1);
    }

    private static void hinge() {
        RoundTrips x = Check.loaded(FOUR);
        Check.refused(x, "hinge(0): none in all", x.hinge(0), 5);
        x.strike(0);
        Check.due(x, "hinge(0)", x.hinge(0), 0, 0);
        Check.refused(x, "hinge(1)", x.hinge(1), 5);
        Check.refused(x, "hinge(-1)", x.hinge(-1), 1);
        x = Check.loaded("a b;gain 90;loss 90;pay a>b 9 at 1;pay a>b 9 at 2;pay b>a 9 at 3;");
        Check.due("hinge(0)", x.hinge(0), 2);
    }

    private static void standing() {
        RoundTrips x = Check.loaded(FOUR + "window 6;");
        int[] times = {0, 4, 5, 6, 7, 11, 12, 13, 14, 9999};
        int[] due = {0, 0, 2, 2, 4, 4, 2, 2, 0, 0};
        for (int i = 0; i < times.length; i++) {
            Check.due(x, "standing(" + times[i] + ", 0)", x.standing(times[i], 0), due[i], 0);
            Check.due(x, "standing(" + times[i] + ", 1)", x.standing(times[i], 1), due[i] > 0 ? 1 : 0, 0);
        }
        Check.refused(x, "standing(-1, 0)", x.standing(-1, 0), 1);
        Check.refused(x, "standing(10000, 0)", x.standing(10000, 0), 1);
        Check.refused(x, "standing(0, 2)", x.standing(0, 2), 1);
        Check.refused(x, "standing(0, -1)", x.standing(0, -1), 1);
        x = Check.loaded(THREE);
        Check.due("standing(131, 1)", x.standing(131, 1), 2);
    }

    private static void peak() {
        RoundTrips x = Check.loaded(FOUR + "window 6;");
        Check.due(x, "peak(0)", x.peak(0), 4, 0);
        Check.due(x, "peak(1)", x.peak(1), 7, 0);
        Check.refused(x, "peak(-1)", x.peak(-1), 1);
        Check.refused(x, "peak(2)", x.peak(2), 1);
        x = Check.loaded("a b;window 3;pay a>b 9 at 1;pay b>a 9 at 3;pay a>b 9 at 11;pay b>a 9 at 13;");
        Check.due("of like ones the first TIME", x.peak(1), 3);
        x = Check.loaded("a b;window 9;pay a>b 9 at 9990;pay b>a 9 at 9999;");
        Check.due("peak(1)", x.peak(1), 9999);
        x = Check.loaded("a b;pay a>b 9 at 1;");
        Check.refused(x, "peak(0)", x.peak(0), 5);
        Check.refused(x, "peak(1)", x.peak(1), 5);
        Check.refused(x, "peak(2)", x.peak(2), 1);
    }

    private static void ranked() {
        RoundTrips x = Check.loaded("a b c d;pay d>c 9 at 1;pay c>d 9 at 2;pay b>d 9 at 3;");
        // HEAT: a 0, b 0, c 1 by 3, d 1 by 4
        int[] due = {2, 3, 0, 1};
        for (int i = 0; i < due.length; i++) {
            Check.due(x, "ranked(" + i + ")", x.ranked(i), due[i], 0);
        }
        Check.refused(x, "ranked(4)", x.ranked(4), 5);
        Check.refused(x, "ranked(-1)", x.ranked(-1), 1);
        x = new RoundTrips();
        Check.refused(x, "ranked(0)", x.ranked(0), 5);
    }

    public static void main(String[] args) {
        steps();
        whatIsARound();
        round();
        hop();
        alarm();
        ring();
        closed();
        would();
        top();
        left();
        cluster();
        hinge();
        standing();
        peak();
        ranked();
        Check.end("RoundsTest");
    }
}
