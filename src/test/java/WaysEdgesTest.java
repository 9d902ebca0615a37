/** Boundary cases of promises 32 to 38: ways, parts. */
public final class WaysEdgesTest {
    private static final int MIN = Integer.MIN_VALUE;
    private static final int MAX = Integer.MAX_VALUE;

    private WaysEdgesTest() { }

    /** A call that takes FROM, TO and a TIME. */
    private interface Way {
        long on(RoundTrips x, int from, int to, int time);
    }

    /** A call that takes an ACCOUNT and a TIME. */
    private interface Going {
        long on(RoundTrips x, int from, int time);
    }

    private static void refused(String name, int status, Edges.Call call) {
        Edges.refused(Edges::market, name, status, call);
    }

    private static void quiet(String name, long want, Edges.Call call) {
        Edges.quiet(Edges::market, name, want, call);
    }

    private static void wrongWays(String name, Way way) {
        for (int time : new int[] {-1, 10000, MIN, MAX}) {
            refused(name + ", TIME " + time, 1, x -> way.on(x, 0, 1, time));
        }
        for (int account : new int[] {-1, 4, MIN, MAX}) {
            refused(name + ", FROM " + account, 2, x -> way.on(x, account, 0, 0));
            refused(name + ", TO " + account, 2, x -> way.on(x, 0, account, 0));
            refused(name + ", both " + account, 2, x -> way.on(x, account, account, 0));
        }
        Edges.refused(Edges::full, name + ", TO 12", 2, x -> way.on(x, 0, 12, 0));
        Edges.refused(Edges::empty, name + ", no ACCOUNTS", 2, x -> way.on(x, 0, 1, 0));
        refused(name + ", both are one", 6, x -> way.on(x, 0, 0, 0));
        refused(name + ", both the last one", 6, x -> way.on(x, 3, 3, 9999));
        refused(name + ", no way", 5, x -> way.on(x, 0, 3, 0));
        refused(name + ", no way from 51 on", 5, x -> way.on(x, 0, 1, 51));
        refused(name + ", no way from 9999 on", 5, x -> way.on(x, 0, 1, 9999));
        Edges.refused(Edges::full, name + ", no way", 5, x -> way.on(x, 11, 0, 0));
    }

    private static void wrongGoings(String name, Going going) {
        for (int time : new int[] {-1, 10000, MIN, MAX}) {
            refused(name + ", TIME " + time, 1, x -> going.on(x, 0, time));
        }
        for (int account : new int[] {-1, 4, MIN, MAX}) {
            refused(name + ", FROM " + account, 2, x -> going.on(x, account, 0));
        }
        Edges.refused(Edges::full, name + ", FROM 12", 2, x -> going.on(x, 12, 0));
        Edges.refused(Edges::empty, name + ", no ACCOUNTS", 2, x -> going.on(x, 0, 0));
    }

    private static RoundTrips row() {
        return Check.loaded(Edges.row());
    }

    // ---- 32: soonest

    static void promise32_wrongOnes() {
        wrongWays("soonest", (x, from, to, time) -> x.soonest(from, to, time, 0));
        wrongWays("soonest", (x, from, to, time) -> x.soonest(from, to, time, 1));
        for (int what : new int[] {-1, 2, MIN, MAX}) {
            refused("what " + what, 1, x -> x.soonest(0, 1, 0, what));
            refused("what " + what + ", no way", 1, x -> x.soonest(0, 3, 0, what));
        }
    }

    static void promise32_timeAndHowMany() {
        quiet("soonest(0, 2, 10, 0)", 20, x -> x.soonest(0, 2, 10, 0));
        quiet("soonest(0, 2, 10, 1)", 2, x -> x.soonest(0, 2, 10, 1));
        quiet("soonest(0, 2, 11, 0)", 50, x -> x.soonest(0, 2, 11, 0));
        quiet("soonest(0, 2, 50, 1)", 1, x -> x.soonest(0, 2, 50, 1));
        refused("soonest(0, 2, 51, 0)", 5, x -> x.soonest(0, 2, 51, 0));
        quiet("of a TRUSTED one", 70, x -> x.soonest(3, 0, 70, 0));
        refused("of a TRUSTED one", 5, x -> x.soonest(3, 0, 71, 0));
        RoundTrips x = row();
        Check.due(x, "the farthest", x.soonest(0, 11, 0, 0), 9000, 0);
        Check.due(x, "by eleven", x.soonest(0, 11, 0, 1), 11, 0);
        Check.refused(x, "one TIME on", x.soonest(0, 11, 1, 0), 5);
        x = Check.loaded("a b;pay a>b 1 at 0;pay b>a 1 at 9999;");
        Check.due(x, "at 0", x.soonest(0, 1, 0, 0), 0, 0);
        Check.due(x, "at 9,999", x.soonest(1, 0, 9999, 0), 9999, 0);
    }

    // ---- 33: step

    static void promise33_wrongOnes() {
        wrongWays("step", (x, from, to, time) -> x.step(from, to, time, 0));
        for (int i : new int[] {-1, MIN}) {
            refused("i " + i, 1, x -> x.step(0, 2, 0, i));
            refused("i " + i + ", no way", 1, x -> x.step(0, 3, 0, i));
        }
        for (int i : new int[] {2, 11, 12, MAX}) {
            refused("i " + i, 5, x -> x.step(0, 2, 0, i));
            refused("i " + i + ", both are one", 6, x -> x.step(2, 2, 0, i));
        }
    }

    static void promise33_i() {
        quiet("step(0, 2, 0, 0)", 0, x -> x.step(0, 2, 0, 0));
        quiet("step(0, 2, 0, 1)", 1, x -> x.step(0, 2, 0, 1));
        quiet("step(0, 2, 50, 0)", 4, x -> x.step(0, 2, 50, 0));
        RoundTrips x = row();
        for (int i = 0; i < 11; i++) {
            Check.due(x, "step(0, 11, 0, " + i + ")", x.step(0, 11, 0, i), i, 0);
        }
        Check.refused(x, "a twelfth", x.step(0, 11, 0, 11), 5);
        x = Check.loaded("a b;" + "pay a>b 9 at 1;".repeat(31) + "pay b>a 9 at 2;");
        Check.due("the last of 32", x.step(1, 0, 0, 0), 31);
        Check.due("of one TIME the first", x.step(0, 1, 1, 0), 0);
    }

    // ---- 34: most

    static void promise34_wrongOnes() {
        wrongWays("most", (x, from, to, time) -> x.most(from, to, time));
    }

    static void promise34_greatestAndLeast() {
        quiet("most(0, 2, 0)", 950, x -> x.most(0, 2, 0));
        quiet("most(0, 2, 11)", 500, x -> x.most(0, 2, 11));
        quiet("most(3, 0, 70)", 7, x -> x.most(3, 0, 70));
        RoundTrips x = Check.loaded("a b;pay a>b 1 at 0;pay b>a 9999 at 9999;");
        Check.due(x, "1", x.most(0, 1, 0), 1, 0);
        Check.due(x, "9,999", x.most(1, 0, 9999), 9999, 0);
        // the last AMOUNT, not the least nor the first one
        x = Check.loaded("a b c d;loss 50;gain 50;pay a>b 100 at 1;pay b>c 50 at 2;pay c>d 75 at 3;");
        Check.due("of the way", x.most(0, 3, 0), 75);
    }

    // ---- 35: reach

    static void promise35_wrongOnes() {
        wrongGoings("reach", (x, from, time) -> x.reach(from, time));
    }

    static void promise35_noneAndAll() {
        quiet("reach(0, 0)", 6, x -> x.reach(0, 0));
        quiet("reach(0, 50)", 4, x -> x.reach(0, 50));
        quiet("reach(0, 51)", 0, x -> x.reach(0, 51));
        quiet("reach(3, 70)", 1, x -> x.reach(3, 70));
        quiet("reach(3, 71)", 0, x -> x.reach(3, 71));
        quiet("reach(0, 9999)", 0, x -> x.reach(0, 9999));
        RoundTrips x = row();
        for (int a = 0; a < 12; a++) {
            Check.due(x, "all behind it", x.reach(a, 0), 4095 & ~((2 << a) - 1), 0);
        }
        Check.due("not itself", Check.loaded("a b;pay a>b 9 at 1;pay b>a 9 at 2;").reach(0, 0), 2);
    }

    // ---- 36: chain

    static void promise36_wrongOnes() {
        wrongGoings("chain", (x, from, time) -> x.chain(from, time));
    }

    static void promise36_noneAndEleven() {
        quiet("chain(0, 0)", 2, x -> x.chain(0, 0));
        quiet("chain(0, 50)", 1, x -> x.chain(0, 50));
        quiet("chain(0, 51)", 0, x -> x.chain(0, 51));
        quiet("chain(3, 0)", 1, x -> x.chain(3, 0));
        quiet("chain(0, 9999)", 0, x -> x.chain(0, 9999));
        RoundTrips x = row();
        for (int a = 0; a < 12; a++) {
            Check.due(x, "chain(" + a + ", 0)", x.chain(a, 0), 11 - a, 0);
        }
        Check.due("one TIME on", x.chain(0, 1), 0);
        x.pay(11, 0, 9, 9999);
        Check.due("not round to the first", x.chain(0, 0), 11);
        Check.due("the one TO it counts", x.chain(1, 0), 11);
    }

    // ---- 37: part

    static void promise37_wrongOnes() {
        for (int number : new int[] {-1, 10000, MIN, MAX}) {
            refused("TIME " + number, 1, x -> x.part(0, number, 5));
            refused("breadth " + number, 1, x -> x.part(0, 5, number));
            refused("ACCOUNT 4, breadth " + number, 1, x -> x.part(4, 5, number));
        }
        for (int account : new int[] {-1, 4, MIN, MAX}) {
            refused("ACCOUNT " + account, 2, x -> x.part(account, 5, 5));
        }
        Edges.refused(Edges::full, "ACCOUNT 12", 2, x -> x.part(12, 0, 0));
        Edges.refused(Edges::empty, "no ACCOUNTS", 2, x -> x.part(0, 0, 0));
    }

    static void promise37_timeAndBreadth() {
        for (int a = 0; a < 4; a++) {
            int account = a;
            quiet("breadth 0", a, x -> x.part(account, 60, 0));
            quiet("all", a == 3 ? 3 : 0, x -> x.part(account, 9999, 9999));
            quiet("at 0", a, x -> x.part(account, 0, 9999));
        }
        quiet("part(2, 30, 21)", 0, x -> x.part(2, 30, 21));
        quiet("part(2, 30, 20)", 2, x -> x.part(2, 30, 20));
        quiet("part(2, 29, 21)", 2, x -> x.part(2, 29, 21));
        Edges.quiet(Edges::full, "the last of twelve", 11, x -> x.part(11, 9999, 9999));
    }

    // ---- 38: parts

    static void promise38_wrongOnes() {
        for (int number : new int[] {-1, 10000, MIN, MAX}) {
            refused("TIME " + number, 1, x -> x.parts(number, 5, 0));
            refused("breadth " + number, 1, x -> x.parts(5, number, 0));
        }
        for (int what : new int[] {-1, 4, MIN, MAX}) {
            refused("what " + what, 1, x -> x.parts(5, 5, what));
        }
    }

    static void promise38_noneOneAndTwelve() {
        int[] none = {0, 0, 0, 0};
        int[] twelve = {12, 0, 1, 0};
        int[] three = {2, 1, 3, 0};
        int[] four = {4, 0, 1, 0};
        for (int what = 0; what <= 3; what++) {
            int w = what;
            Edges.quiet(Edges::empty, "without ACCOUNTS", none[what], x -> x.parts(0, 0, w));
            Edges.quiet(Edges::empty, "without ACCOUNTS", none[what], x -> x.parts(9999, 9999, w));
            Edges.quiet(Edges::full, "twelve of one each", twelve[what], x -> x.parts(1, 9999, w));
            quiet("all", three[what], x -> x.parts(9999, 9999, w));
            quiet("breadth 0", four[what], x -> x.parts(60, 0, w));
            quiet("at 0", four[what], x -> x.parts(0, 9999, w));
        }
        RoundTrips x = row();
        x.pay(11, 0, 1, 9900);
        int[] one = {1, 1, 12, 0};
        for (int what = 0; what <= 3; what++) {
            Check.due(x, "all twelve", x.parts(9900, 9901, what), one[what], 0);
            Check.due(x, "without the first TRANSFER", x.parts(9900, 9900, what), twelve[what], 0);
        }
    }

    static void promise38_ofSeveralTheFirst() {
        RoundTrips x = Check.loaded("a b c d e f g;pay d>e 1 at 1;pay e>d 1 at 1;pay f>g 1 at 2;pay g>f 1 at 2;pay b>c 1 at 3;"
            + "pay c>b 1 at 3;");
        int[][] due = {{6, 1, 2, 3}, {5, 2, 2, 3}, {4, 3, 2, 1}};
        for (int time = 1; time <= 3; time++) {
            for (int what = 0; what <= 3; what++) {
                Check.due(x, "at " + time, x.parts(time, 9, what), due[time - 1][what], 0);
            }
        }
        x.pay(6, 5, 1, 4);
        x.pay(4, 6, 1, 4);
        x.pay(6, 4, 1, 4);
        int[] more = {3, 2, 4, 3};
        for (int what = 0; what <= 3; what++) {
            Check.due(x, "the one with the most", x.parts(4, 9, what), more[what], 0);
        }
    }

    public static void main(String[] args) throws ReflectiveOperationException {
        Edges.run(WaysEdgesTest.class, 32, 38);
    }
}
