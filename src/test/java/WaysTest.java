/** Promises 32 to 38: ways to come, parts. */
public final class WaysTest {
    private WaysTest() { }

    private static final String TEXT = "a b c d e;gain 90;loss 50;pay a>b 100 at 5;pay a>c 100 at 5;pay b>d 60 at 10;"
        + "pay c>d 80 at 10;pay a>d 99 at 20;pay d>e 90 at 30;pay b>a 70 at 40;trust b;trust c;window 1;longest 2;";

    private static void soonest() {
        RoundTrips x = Check.loaded(TEXT);
        Check.due(x, "TRUSTED or not", x.soonest(0, 3, 0, 0), 10, 0);
        Check.due(x, "soonest(0, 3, 0, 1)", x.soonest(0, 3, 0, 1), 2, 0);
        Check.due(x, "not ahead of 5", x.soonest(0, 3, 5, 0), 10, 0);
        Check.due(x, "not ahead of 6", x.soonest(0, 3, 6, 0), 20, 0);
        Check.due(x, "soonest(0, 3, 6, 1)", x.soonest(0, 3, 6, 1), 1, 0);
        Check.refused(x, "soonest(0, 3, 21, 0)", x.soonest(0, 3, 21, 0), 5);
        Check.due("of two ways as soon the one by fewer", x.soonest(0, 4, 0, 1), 2);
        Check.refused(x, "no way", x.soonest(4, 0, 0, 0), 5);
        Check.refused(x, "no way through itself", x.soonest(2, 0, 0, 0), 5);
        Check.refused(x, "what -1", x.soonest(0, 3, 0, -1), 1);
        Check.refused(x, "what 2", x.soonest(0, 3, 0, 2), 1);
        Check.refused(x, "TIME -1", x.soonest(0, 3, -1, 0), 1);
        Check.refused(x, "TIME 10000", x.soonest(0, 9, 10000, 0), 1);
        Check.refused(x, "TO 5", x.soonest(0, 5, 0, 0), 2);
        Check.refused(x, "FROM -1", x.soonest(-1, 0, 0, 0), 2);
        Check.refused(x, "both are one", x.soonest(3, 3, 0, 0), 6);
        Check.refused(x, "both are one", x.soonest(5, 5, 0, 0), 2);
        x = Check.loaded("a b;pay a>b 1 at 9999;");
        Check.due(x, "soonest(0, 1, 9999, 0)", x.soonest(0, 1, 9999, 0), 9999, 0);
        // as soon, by fewer TRANSFERS
        x = Check.loaded("a b c;pay a>b 9 at 1;pay b>c 9 at 3;pay a>c 9 at 3;");
        Check.due("soonest(0, 2, 0, 1)", x.soonest(0, 2, 0, 1), 1);
        Check.due("step(0, 2, 0, 0)", x.step(0, 2, 0, 0), 2);
        // the step must fit, though a later one would be left
        x = Check.loaded("a b c;pay a>b 100 at 1;pay b>c 80 at 2;pay b>c 101 at 3;pay b>c 95 at 9;");
        Check.due("soonest(0, 2, 0, 0)", x.soonest(0, 2, 0, 0), 9);
        // all ACCOUNTS unlike: d can be reached by its amount through b a second time alone
        x = Check.loaded("a b c d;loss 20;pay a>b 100 at 1;pay b>c 80 at 2;pay c>b 64 at 3;pay b>d 64 at 4;");
        Check.refused(x, "soonest(0, 3, 0, 0)", x.soonest(0, 3, 0, 0), 5);
        Check.due("reach(0, 0)", x.reach(0, 0), 6);
        Check.due("chain(0, 0)", x.chain(0, 0), 2);
    }

    private static void step() {
        RoundTrips x = Check.loaded(TEXT);
        Check.due(x, "the first by numbers", x.step(0, 3, 0, 0), 0, 0);
        Check.due(x, "step(0, 3, 0, 1)", x.step(0, 3, 0, 1), 2, 0);
        Check.refused(x, "not so many", x.step(0, 3, 0, 2), 5);
        Check.due(x, "step(0, 4, 0, 0)", x.step(0, 4, 0, 0), 4, 0);
        Check.due(x, "step(0, 4, 0, 1)", x.step(0, 4, 0, 1), 5, 0);
        Check.refused(x, "step(0, 4, 0, 2)", x.step(0, 4, 0, 2), 5);
        Check.refused(x, "no way", x.step(4, 0, 0, 0), 5);
        Check.refused(x, "i -1", x.step(0, 3, 0, -1), 1);
        Check.refused(x, "i -1, both are one", x.step(3, 3, 0, -1), 1);
        Check.refused(x, "TIME 10000", x.step(0, 3, 10000, 0), 1);
        Check.refused(x, "TO 5", x.step(0, 5, 0, 0), 2);
        Check.refused(x, "both are one", x.step(3, 3, 0, 9), 6);
        Check.refused(x, "i 2147483647", x.step(0, 3, 0, Integer.MAX_VALUE), 5);
        // a long way: through all twelve
        x = Check.loaded("a b c d e f g h i j k l;pay a>b 9 at 1;pay b>c 9 at 2;pay c>d 9 at 3;pay d>e 9 at 4;"
            + "pay e>f 9 at 5;pay f>g 9 at 6;pay g>h 9 at 7;pay h>i 9 at 8;pay i>j 9 at 9;pay j>k 9 at 10;pay k>l 9 at 11;");
        for (int i = 0; i < 11; i++) {
            Check.due(x, "step(0, 11, 1, " + i + ")", x.step(0, 11, 1, i), i, 0);
        }
        Check.refused(x, "step(0, 11, 1, 11)", x.step(0, 11, 1, 11), 5);
        Check.refused(x, "step(0, 11, 1, 12)", x.step(0, 11, 1, 12), 5);
        Check.due("chain(0, 0)", x.chain(0, 0), 11);
        Check.due("reach(0, 0)", x.reach(0, 0), 4094);
    }

    private static void most() {
        RoundTrips x = Check.loaded(TEXT);
        Check.due(x, "most(0, 3, 0)", x.most(0, 3, 0), 99, 0);
        x.strike(4);
        Check.due(x, "most(0, 3, 0)", x.most(0, 3, 0), 80, 0);
        Check.due(x, "most(0, 4, 0)", x.most(0, 4, 0), 90, 0);
        Check.refused(x, "most(0, 3, 6)", x.most(0, 3, 6), 5);
        Check.refused(x, "TIME -1", x.most(0, 3, -1), 1);
        Check.refused(x, "TIME 10000", x.most(7, 7, 10000), 1);
        Check.refused(x, "FROM 5", x.most(5, 3, 0), 2);
        Check.refused(x, "TO -1", x.most(0, -1, 0), 2);
        Check.refused(x, "both are one", x.most(1, 1, 0), 6);
        Check.due("1 is the least", Check.loaded("a b;pay a>b 1 at 1;").most(0, 1, 1), 1);
    }

    private static void reachAndChain() {
        RoundTrips x = Check.loaded(TEXT);
        Check.due(x, "reach(0, 0)", x.reach(0, 0), 30, 0);
        Check.due(x, "reach(0, 20)", x.reach(0, 20), 24, 0);
        Check.due(x, "reach(0, 21)", x.reach(0, 21), 0, 0);
        Check.due(x, "not itself", x.reach(1, 0), 25, 0);
        Check.due(x, "chain(0, 0)", x.chain(0, 0), 3, 0);
        Check.due(x, "chain(0, 20)", x.chain(0, 20), 2, 0);
        Check.due(x, "chain(0, 21)", x.chain(0, 21), 0, 0);
        Check.due(x, "chain(4, 0)", x.chain(4, 0), 0, 0);
        for (int time = -1; time < 10002; time += 10001) {
            Check.refused(x, "reach(0, " + time + ")", x.reach(0, time), 1);
            Check.refused(x, "chain(9, " + time + ")", x.chain(9, time), 1);
        }
        Check.refused(x, "reach(5, 0)", x.reach(5, 0), 2);
        Check.refused(x, "reach(-1, 0)", x.reach(-1, 0), 2);
        Check.refused(x, "chain(5, 0)", x.chain(5, 0), 2);
        Check.refused(x, "chain(-1, 0)", x.chain(-1, 0), 2);
        // back to the first is no way
        x = Check.loaded("a b;pay a>b 9 at 1;pay b>a 9 at 2;");
        Check.due("reach(0, 0)", x.reach(0, 0), 2);
        Check.due("chain(0, 0)", x.chain(0, 0), 1);
    }

    private static void part() {
        // in whatever order, whatever the amounts
        RoundTrips x = Check.loaded("a b c d e;pay b>c 9 at 30;pay c>d 500 at 20;pay d>b 1 at 10;pay a>b 9 at 15;trust b;");
        Check.due(x, "part(3, 30, 21)", x.part(3, 30, 21), 1, 0);
        Check.due(x, "part(3, 30, 20)", x.part(3, 30, 20), 3, 0);
        Check.due(x, "part(3, 29, 21)", x.part(3, 29, 21), 3, 0);
        Check.due(x, "part(3, 31, 21)", x.part(3, 31, 21), 3, 0);
        Check.due(x, "part(2, 9999, 9999)", x.part(2, 9999, 9999), 1, 0);
        Check.due(x, "part(0, 30, 21)", x.part(0, 30, 21), 0, 0);
        Check.due(x, "breadth 0", x.part(3, 30, 0), 3, 0);
        Check.refused(x, "part(5, 30, 21)", x.part(5, 30, 21), 2);
        Check.refused(x, "part(-1, 30, 21)", x.part(-1, 30, 21), 2);
        Check.refused(x, "TIME -1", x.part(0, -1, 21), 1);
        Check.refused(x, "TIME 10000", x.part(0, 10000, 21), 1);
        Check.refused(x, "breadth -1", x.part(0, 30, -1), 1);
        Check.refused(x, "breadth 10000", x.part(5, 30, 10000), 1);
        x = Check.loaded("a b;pay a>b 9 at 5;pay b>a 9 at 5;");
        Check.due("breadth 1", x.part(1, 5, 1), 0);
        Check.due("breadth 1", x.part(1, 6, 1), 1);
    }

    private static void parts() {
        RoundTrips x = Check.loaded("a b c d e f;pay e>f 9 at 1;pay f>e 9 at 2;pay b>d 9 at 3;pay d>b 9 at 4;pay a>b 9 at 5;");
        int[] due = {4, 2, 2, 1};
        int[] none = {6, 0, 1, 0};
        for (int what = 0; what < 4; what++) {
            Check.due(x, "parts(5, 9, " + what + ")", x.parts(5, 9, what), due[what], 0);
            Check.due(x, "parts(5, 0, " + what + ")", x.parts(5, 0, what), none[what], 0);
            Check.refused(x, "TIME -1", x.parts(-1, 9, what), 1);
            Check.refused(x, "TIME 10000", x.parts(10000, 9, what), 1);
            Check.refused(x, "breadth -1", x.parts(5, -1, what), 1);
            Check.refused(x, "breadth 10000", x.parts(5, 10000, what), 1);
            Check.due("without ACCOUNTS", new RoundTrips().parts(5, 9, what), 0);
        }
        Check.due("parts(2, 9, 3)", x.parts(2, 9, 3), 4);
        Check.refused(x, "what -1", x.parts(5, 9, -1), 1);
        Check.refused(x, "what 4", x.parts(5, 9, 4), 1);
        x.pay(3, 0, 9, 6);
        Check.due("parts(6, 9, 2)", x.parts(6, 9, 2), 3);
        Check.due("parts(6, 9, 3)", x.parts(6, 9, 3), 0);
    }

    public static void main(String[] args) {
        soonest();
        step();
        most();
        reachAndChain();
        part();
        parts();
        Check.end("WaysTest");
    }
}
