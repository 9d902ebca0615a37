/** Promises 39 to 45: what to do. */
public final class AdviceTest {
    private static final String TWO = "a b c d;pay b>c 9 at 1;pay c>b 9 at 2;pay d>c 9 at 3;pay c>d 9 at 4;pay d>a 9 at 5;pay a>d 9 at 6;";

    private AdviceTest() { }

    private static void freeze() {
        RoundTrips x = new RoundTrips();
        x.undo();
        Check.due(x, "without ROUNDS", x.freeze(), 0, 0);
        x = Check.loaded(TWO);
        Check.due(x, "of {a, c}, {b, d}, {c, d} the least SET", x.freeze(), 5, 0);
        x = Check.loaded("a b c;pay b>c 9 at 1;pay c>b 9 at 2;");
        Check.due("the least SET", x.freeze(), 2);
        // one in all ROUNDS is fewer than two lesser ones
        x = Check.loaded("a b c d;pay a>d 9 at 1;pay d>a 9 at 2;pay b>d 9 at 3;pay d>b 9 at 4;pay c>d 9 at 5;pay d>c 9 at 6;");
        Check.due("d alone", x.freeze(), 8);
        x = Check.loaded("a b c d e f g h i j k l;pay a>b 9 at 1;pay b>a 9 at 2;pay c>d 9 at 1;pay d>c 9 at 2;"
            + "pay e>f 9 at 1;pay f>e 9 at 2;pay g>h 9 at 1;pay h>g 9 at 2;pay i>j 9 at 1;pay j>i 9 at 2;pay k>l 9 at 1;pay l>k 9 at 2;");
        Check.due("of six pairs the lesser ones", x.freeze(), 1 | 4 | 16 | 64 | 256 | 1024);
    }

    private static void without() {
        RoundTrips x = Check.loaded(TWO);
        Check.due("many(3)", x.many(3), 3);
        int[] due = {3, 2, 2, 1, 1, 0};
        for (int set = 0; set < due.length; set++) {
            Check.due(x, "without(" + set + ")", x.without(set), due[set], 0);
        }
        Check.due("without(8)", x.without(8), 1);
        Check.due("without(15)", x.without(15), 0);
        Check.refused(x, "without(16)", x.without(16), 7);
        Check.refused(x, "without(17)", x.without(17), 7);
        Check.refused(x, "without(2147483647)", x.without(Integer.MAX_VALUE), 7);
        Check.refused(x, "without(-1)", x.without(-1), 1);
        Check.refused(x, "without(-2147483648)", x.without(Integer.MIN_VALUE), 1);
    }

    private static void heat() {
        RoundTrips x = Check.loaded("a b c d;pay d>c 9 at 1;pay c>d 9 at 2;pay b>d 9 at 3;");
        float[] due = {0f, 0f / 2f, 1f / 3f, 1f / 4f};
        for (int a = 0; a < due.length; a++) {
            Check.due(x, "heat(" + a + ")", x.heat(a), Float.floatToIntBits(due[a]), 0);
        }
        Check.refused(x, "heat(4)", x.heat(4), 2);
        Check.refused(x, "heat(-1)", x.heat(-1), 2);
        x = Check.loaded("a b;pay a>b 9 at 1;pay a>b 9 at 2;pay a>b 9 at 3;pay b>a 9 at 4;pay b>a 9 at 5;pay b>a 9 at 6;");
        Check.due("heat(0)", x.heat(0), Float.floatToIntBits(9f / 7f));
    }

    private static void funnel() {
        RoundTrips x = Check.loaded("a b c d e;loss 10;gain 10;pay a>c 50 at 1;pay b>c 50 at 5;pay a>c 100 at 10;pay c>d 90 at 10;"
            + "pay d>e 50 at 10;pay d>a 40 at 11;pay d>b 59 at 20;pay d>e 1 at 21;");
        int[] due = {2, 100, 1, 2, 99, 1};
        for (int what = 0; what < due.length; what++) {
            Check.due(x, "funnel(3, 10, " + what + ")", x.funnel(3, 10, what), due[what], 0);
        }
        int[] wide = {2, 100, 1, 3, 100, 0};
        for (int what = 0; what < wide.length; what++) {
            Check.due(x, "funnel(3, 11, " + what + ")", x.funnel(3, 11, what), wide[what], 0);
        }
        int[] narrow = {1, 50, 0, 1, 40, 0};
        for (int what = 0; what < narrow.length; what++) {
            Check.due(x, "funnel(3, 8, " + what + ")", x.funnel(3, 8, what), narrow[what], 0);
            Check.due(x, "funnel(3, 0, " + what + ")", x.funnel(3, 0, what), 0, 0);
        }
        Check.due("funnel(3, 9, 0)", x.funnel(3, 9, 0), 2);
        Check.due(x, "funnel(0, 9, 3)", x.funnel(0, 9, 3), 1, 0);
        Check.due(x, "funnel(0, 9, 4)", x.funnel(0, 9, 4), 90, 0);
        Check.refused(x, "funnel(8, 9, 0)", x.funnel(8, 9, 0), 5);
        Check.refused(x, "funnel(-1, 9, 0)", x.funnel(-1, 9, 0), 1);
        Check.refused(x, "breadth -1", x.funnel(3, -1, 0), 1);
        Check.refused(x, "breadth 10000", x.funnel(8, 10000, 0), 1);
        Check.refused(x, "what -1", x.funnel(3, 9, -1), 1);
        Check.refused(x, "what 6", x.funnel(3, 9, 6), 1);
        Check.due("funnel(3, 9999, 5)", x.funnel(3, 9999, 5), 0);
        atTheLimits(89, 0, 0);
        atTheLimits(90, 1, 0);
        atTheLimits(99, 1, 0);
        atTheLimits(100, 1, 1);
        atTheLimits(101, 0, 1);
        atTheLimits(111, 0, 1);
        atTheLimits(112, 0, 0);
    }

    // LOSS 10, GAIN 0: of 50 and 50 to b so much goes on to c, and of that 50 and 50 to a.
    private static void atTheLimits(int amount, int gathers, int scatters) {
        RoundTrips x = Check.loaded("a b c;pay a>b 50 at 1;pay a>b 50 at 2;pay b>c " + amount + " at 3;"
            + "pay c>a 50 at 4;pay c>a 50 at 5;");
        Check.due("GATHERS " + amount, x.funnel(2, 5, 2), gathers);
        Check.due("funnels(5, false) " + amount, x.funnels(5, false), gathers);
        Check.due("SCATTERS " + amount, x.funnel(2, 5, 5), scatters);
        Check.due("funnels(5, true) " + amount, x.funnels(5, true), scatters);
    }

    private static void funnels() {
        RoundTrips x = Check.loaded("a b c d;gain 90;loss 90;pay a>b 40 at 1;pay a>b 40 at 2;pay b>c 20 at 3;pay b>c 20 at 4;pay c>d 40 at 5;");
        // fed by two: 2 and 4 of breadth 2, 3 of 3; sprayed by two: 1 of breadth 2, 0 of 3
        int[] gather = {0, 0, 2, 3, 3};
        int[] scatter = {0, 0, 1, 2, 2};
        for (int breadth = 0; breadth < 5; breadth++) {
            Check.due(x, "funnels(" + breadth + ", false)", x.funnels(breadth, false), gather[breadth], 0);
            Check.due(x, "funnels(" + breadth + ", true)", x.funnels(breadth, true), scatter[breadth], 0);
        }
        Check.due(x, "funnels(9999, false)", x.funnels(9999, false), 3, 0);
        Check.refused(x, "funnels(-1, false)", x.funnels(-1, false), 1);
        Check.refused(x, "funnels(10000, true)", x.funnels(10000, true), 1);
        Check.due("funnels(5, true) of none", new RoundTrips().funnels(5, true), 0);
    }

    private static void until() {
        RoundTrips x = Check.loaded("a b c;pay a>b 9 at 1;pay b>a 9 at 5;pay b>a 9 at 5;pay b>c 9 at 6;pay c>b 9 at 9;pay c>b 9 at 9999;");
        int[][] due = {{0, 0, 0, 0}, {1, 0, 0, 1}, {4, 0, 0, 1}, {5, 2, 1, 3}, {8, 2, 1, 4}, {9, 3, 2, 5}, {9998, 3, 2, 5}, {9999, 3, 2, 6}};
        for (int[] row : due) {
            for (int what = 0; what < 3; what++) {
                Check.due(x, "until(" + row[0] + ", " + what + ")", x.until(row[0], what), row[what + 1], 0);
            }
        }
        Check.refused(x, "TIME -1", x.until(-1, 0), 1);
        Check.refused(x, "TIME 10000", x.until(10000, 0), 1);
        Check.refused(x, "what -1", x.until(0, -1), 1);
        Check.refused(x, "what 3", x.until(0, 3), 1);
    }

    private static void need() {
        RoundTrips x = Check.loaded("a b;window 300;pay a>b 100 at 1;pay b>a 95 at 201;pay b>a 120 at 301;");
        Check.due(x, "need(0)", x.need(0), 200, 0);
        Check.due(x, "need(2)", x.need(2), 5, 0);
        Check.due(x, "need(3)", x.need(3), 0, 0);
        Check.due("the BOUND is as it was", x.bounds(2), 10);
        Check.due("no ACT", x.many(5), 1);
        x.strike(1);
        Check.due(x, "need(3)", x.need(3), 20, 0);
        Check.refused(x, "need(0) with GAIN 0", x.need(0), 5);
        Check.refused(x, "need(2) with GAIN 0", x.need(2), 5);
        x.bound(0, 299);
        Check.refused(x, "need(3) with WINDOW 299", x.need(3), 5);
        x.bound(3, 20);
        Check.due(x, "need(0)", x.need(0), 300, 0);
        for (int which : new int[] {-1, 1, 4}) {
            Check.refused(x, "need(" + which + ")", x.need(which), 1);
        }
        for (int loss = 0; loss <= 90; loss++) {
            x = Check.loaded("a b;pay a>b 1000 at 1;pay b>a " + (1000 - 10 * loss) + " at 2;");
            Check.due(x, "need(2) of " + loss, x.need(2), loss, 0);
            x = Check.loaded("a b;pay a>b 1000 at 1;pay b>a " + (1000 + 10 * loss) + " at 2;");
            Check.due(x, "need(3) of " + loss, x.need(3), loss, 0);
        }
        x = Check.loaded("a b;pay a>b 1000 at 1;pay b>a 100 at 2;");
        Check.due("need(2)", x.need(2), 90);
        x = Check.loaded("a b;pay a>b 1000 at 1;pay b>a 99 at 2;");
        Check.refused(x, "need(2)", x.need(2), 5);
        x = Check.loaded("a b;pay a>b 1000 at 1;pay b>a 1891 at 2;");
        Check.due("need(3)", x.need(3), 90);
        x = Check.loaded("a b;pay a>b 1000 at 1;pay b>a 1901 at 2;");
        Check.refused(x, "need(3)", x.need(3), 5);
        x = Check.loaded("a b;loss 0;pay a>b 1000 at 0;pay b>a 999 at 1;");
        Check.due("need(2)", x.need(2), 1);
        x = Check.loaded("a b;window 0;pay a>b 1000 at 0;pay b>a 999 at 9999;");
        Check.due("need(0)", x.need(0), 9999);
        x.trust(0, true);
        Check.refused(x, "need(0) with a TRUSTED one", x.need(0), 5);
    }

    public static void main(String[] args) {
        freeze();
        without();
        heat();
        funnel();
        funnels();
        until();
        need();
        Check.end("AdviceTest");
    }
}
