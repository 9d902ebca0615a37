/** Boundary cases of promises 39 to 45: what to do. */
public final class AdviceEdgesTest {
    private static final int MIN = Integer.MIN_VALUE;
    private static final int MAX = Integer.MAX_VALUE;

    private AdviceEdgesTest() { }

    private static void refused(String name, int status, Edges.Call call) {
        Edges.refused(Edges::market, name, status, call);
    }

    private static void quiet(String name, long want, Edges.Call call) {
        Edges.quiet(Edges::market, name, want, call);
    }

    // ---- 39: freeze

    static void promise39_noneAndAsManyAsThereCanBe() {
        quiet("freeze()", 1, RoundTrips::freeze);
        Edges.quiet(Edges::empty, "no ACCOUNTS", 0, RoundTrips::freeze);
        Edges.quiet(Edges::full, "no ROUNDS", 0, RoundTrips::freeze);
        // six pairs: one of each
        RoundTrips x = Check.loaded("a b c d e f g h i j k l;pay a>b 9 at 1;pay b>a 9 at 2;pay c>d 9 at 1;pay d>c 9 at 2;"
            + "pay e>f 9 at 1;pay f>e 9 at 2;pay g>h 9 at 1;pay h>g 9 at 2;pay i>j 9 at 1;pay j>i 9 at 2;pay k>l 9 at 1;pay l>k 9 at 2;");
        Check.due(x, "six of twelve", x.freeze(), 0b010101010101, 0);
        Check.due("nothing goes round", x.without(0b010101010101), 0);
        // all to all of six, by twos: 30 TRANSFERS, all but one must be frozen
        x = Check.loaded(Edges.eachTwo(6, 11));
        Check.due("15 ALARMS", x.many(4), 15);
        Check.due("all but the last", x.freeze(), 0b011111000000);
    }

    static void promise39_itIsNoActAndFreezesNone() {
        RoundTrips x = Edges.market();
        x.without(99);
        Check.due(x, "freeze()", x.freeze(), 1, 0);
        Check.due("ROUNDS", x.many(3), 3);
        Check.due("TRUSTED", x.many(2), 8);
        x.trust(0, true);
        Check.due("none goes round", x.freeze(), 0);
    }

    // ---- 40: without

    static void promise40_set() {
        refused("without(-1)", 1, x -> x.without(-1));
        refused("without(MIN)", 1, x -> x.without(MIN));
        refused("without(16)", 7, x -> x.without(16));
        refused("without(17)", 7, x -> x.without(17));
        refused("without(31)", 7, x -> x.without(31));
        refused("without(4096)", 7, x -> x.without(4096));
        refused("without(1 << 30)", 7, x -> x.without(1 << 30));
        refused("without(MAX)", 7, x -> x.without(MAX));
        Edges.refused(Edges::full, "without(4096)", 7, x -> x.without(4096));
        Edges.refused(Edges::empty, "without(1)", 7, x -> x.without(1));
        Edges.refused(Edges::empty, "without(-1)", 1, x -> x.without(-1));
        Edges.quiet(Edges::empty, "without(0)", 0, x -> x.without(0));
        Edges.quiet(Edges::full, "without(4095)", 0, x -> x.without(4095));
        int[] due = {3, 0, 1, 0, 1, 0, 0, 0, 3, 0, 1, 0, 1, 0, 0, 0};
        for (int set = 0; set < 16; set++) {
            int s = set;
            quiet("without(" + set + ")", due[set], x -> x.without(s));
        }
    }

    // ---- 41: heat

    static void promise41_account() {
        for (int account : new int[] {-1, 4, MIN, MAX}) {
            refused("heat(" + account + ")", 2, x -> x.heat(account));
        }
        Edges.refused(Edges::full, "heat(12)", 2, x -> x.heat(12));
        Edges.refused(Edges::empty, "heat(0)", 2, x -> x.heat(0));
        float[] due = {3f / 7f, 2f / 4f, 2f / 5f, 0f};
        for (int a = 0; a < 4; a++) {
            int account = a;
            quiet("heat(" + a + ")", Float.floatToIntBits(due[a]), x -> x.heat(account));
        }
        for (int a : new int[] {0, 1, 11}) {
            Edges.quiet(Edges::full, "in no ROUND", 0, x -> x.heat(a));
        }
        RoundTrips x = Check.loaded("a b c;pay a>b 9 at 1;pay b>a 9 at 2;");
        Check.due("1 by 3", x.heat(0), Float.floatToIntBits(1f / 3f));
        Check.due("no TRANSFERS", x.heat(2), 0);
    }

    static void promise41_asManyRoundsAsThereCanBe() {
        RoundTrips x = new RoundTrips();
        for (int a = 0; a < 5; a++) {
            x.add();
        }
        x.bound(1, 5);
        int[] many = {6, 6, 7, 7, 6};
        for (int bunch = 0; bunch < 5; bunch++) {
            for (int i = 0; i < many[bunch]; i++) {
                x.pay(bunch, (bunch + 1) % 5, 9, bunch);
            }
        }
        Check.due("many(3)", x.many(3), 10584);
        Check.due("heat(0)", x.heat(0), Float.floatToIntBits(10584f / 13f));
        Check.due("heat(3)", x.heat(3), Float.floatToIntBits(10584f / 15f));
        Check.due("ranked(0)", x.ranked(0), 0);
        Check.due("ranked(4)", x.ranked(4), 3);
    }

    // ---- 42: funnel

    static void promise42_wrongOnes() {
        for (int breadth : new int[] {-1, 10000, MIN, MAX}) {
            refused("breadth " + breadth, 1, x -> x.funnel(0, breadth, 0));
            refused("TRANSFER 7, breadth " + breadth, 1, x -> x.funnel(7, breadth, 0));
        }
        for (int what : new int[] {-1, 6, MIN, MAX}) {
            refused("what " + what, 1, x -> x.funnel(0, 5, what));
        }
        refused("funnel(-1, 5, 0)", 1, x -> x.funnel(-1, 5, 0));
        refused("funnel(MIN, 5, 5)", 1, x -> x.funnel(MIN, 5, 5));
        refused("funnel(7, 5, 0)", 5, x -> x.funnel(7, 5, 0));
        refused("funnel(MAX, 5, 5)", 5, x -> x.funnel(MAX, 5, 5));
        Edges.refused(Edges::full, "funnel(32, 5, 0)", 5, x -> x.funnel(32, 5, 0));
        Edges.refused(Edges::empty, "funnel(0, 0, 0)", 5, x -> x.funnel(0, 0, 0));
    }

    static void promise42_what() {
        // TRANSFER 4 is a>c 500 at 50: FED by c>a 900 at 30, b>a 1000 at 40; SPRAYED by c>a 480 at 60
        int[] due = {2, 1900, 0, 1, 480, 0};
        int[] none = {0, 0, 0, 0, 0, 0};
        int[] nine = {0, 0, 0, 0, 0, 0};
        int[] ten = {1, 1000, 0, 1, 480, 0};
        for (int what = 0; what <= 5; what++) {
            int w = what;
            quiet("breadth 9999, what " + what, due[what], x -> x.funnel(4, 9999, w));
            quiet("breadth 20, what " + what, due[what], x -> x.funnel(4, 20, w));
            quiet("breadth 19, what " + what, ten[what], x -> x.funnel(4, 19, w));
            quiet("breadth 10, what " + what, ten[what], x -> x.funnel(4, 10, w));
            quiet("breadth 9, what " + what, nine[what], x -> x.funnel(4, 9, w));
            quiet("breadth 0, what " + what, none[what], x -> x.funnel(4, 0, w));
            Edges.quiet(Edges::full, "all of one TIME", 0, x -> x.funnel(31, 9999, w));
        }
    }

    static void promise42_gathersAndScatters() {
        RoundTrips x = Check.loaded("a b c d;pay a>c 50 at 1;pay b>c 50 at 2;pay c>d 90 at 3;pay d>a 50 at 4;pay d>b 40 at 5;");
        int[] due = {2, 100, 1, 2, 90, 1};
        for (int what = 0; what <= 5; what++) {
            Check.due(x, "funnel(2, 2, " + what + ")", x.funnel(2, 2, what), due[what], 0);
        }
        int[] less = {1, 50, 0, 1, 50, 0};
        for (int what = 0; what <= 5; what++) {
            Check.due(x, "funnel(2, 1, " + what + ")", x.funnel(2, 1, what), less[what], 0);
        }
        x = Check.loaded("a b;" + "pay a>b 9999 at 0;".repeat(31) + "pay b>a 9999 at 9999;");
        Check.due("FED by all others", x.funnel(31, 9999, 0), 31);
        Check.due("so much", x.funnel(31, 9999, 1), 309969);
        Check.due("too little goes on", x.funnel(31, 9999, 2), 0);
        Check.due("breadth 9,998", x.funnel(31, 9998, 0), 0);
        Check.due("SPRAYED by one", x.funnel(0, 9999, 3), 1);
    }

    // ---- 43: funnels

    static void promise43_breadth() {
        for (int breadth : new int[] {-1, 10000, MIN, MAX}) {
            refused("breadth " + breadth, 1, x -> x.funnels(breadth, false));
            refused("breadth " + breadth, 1, x -> x.funnels(breadth, true));
        }
        Edges.quiet(Edges::empty, "none", 0, x -> x.funnels(0, false));
        Edges.quiet(Edges::empty, "none", 0, x -> x.funnels(9999, true));
        Edges.quiet(Edges::full, "none", 0, x -> x.funnels(9999, false));
        quiet("breadth 0", 0, x -> x.funnels(0, false));
        quiet("breadth 9,999", 0, x -> x.funnels(9999, true));
    }

    static void promise43_asManyAsThereCanBe() {
        // 18 together goes on as 9 each time; 9 as 270 does not
        RoundTrips x = Check.loaded("a b;gain 90;loss 90;pay a>b 9 at 1;pay a>b 9 at 1;" + "pay b>a 9 at 2;".repeat(30));
        Check.due(x, "30 GATHER", x.funnels(1, false), 30, 0);
        Check.due(x, "none SCATTERS", x.funnels(1, true), 0, 0);
        Check.due(x, "breadth 0", x.funnels(0, false), 0, 0);
        x = Check.loaded("a b;gain 90;loss 90;" + "pay a>b 16 at 1;".repeat(30) + "pay b>a 8 at 2;pay b>a 8 at 2;");
        Check.due(x, "30 SCATTER", x.funnels(1, true), 30, 0);
        Check.due(x, "none GATHERS", x.funnels(1, false), 0, 0);
    }

    // ---- 44: until

    static void promise44_timeAndWhat() {
        for (int time : new int[] {-1, 10000, MIN, MAX}) {
            refused("TIME " + time, 1, x -> x.until(time, 0));
            refused("TIME " + time, 1, x -> x.until(time, 2));
        }
        for (int what : new int[] {-1, 3, MIN, MAX}) {
            refused("what " + what, 1, x -> x.until(0, what));
        }
        int[][] due = {{0, 0, 0, 0}, {9, 0, 0, 0}, {10, 0, 0, 1}, {29, 0, 0, 2}, {30, 1, 1, 3}, {39, 1, 1, 3}, {40, 2, 2, 4},
            {60, 3, 3, 6}, {69, 3, 3, 6}, {70, 3, 3, 7}, {9999, 3, 3, 7}};
        for (int[] row : due) {
            for (int what = 0; what <= 2; what++) {
                int w = what;
                quiet("until(" + row[0] + ", " + what + ")", row[what + 1], x -> x.until(row[0], w));
            }
        }
        int[] all = {0, 0, 32};
        for (int what = 0; what <= 2; what++) {
            int w = what;
            Edges.quiet(Edges::empty, "none", 0, x -> x.until(9999, w));
            Edges.quiet(Edges::full, "none at 0", 0, x -> x.until(0, w));
            Edges.quiet(Edges::full, "all at 1", all[what], x -> x.until(1, w));
        }
    }

    static void promise44_firstAndLastTime() {
        RoundTrips x = Check.loaded("a b;window 9999;pay a>b 9 at 0;pay b>a 9 at 9999;");
        int[][] due = {{0, 0, 1}, {0, 0, 1}, {1, 1, 2}};
        int[] times = {0, 9998, 9999};
        for (int i = 0; i < 3; i++) {
            for (int what = 0; what <= 2; what++) {
                Check.due(x, "until(" + times[i] + ", " + what + ")", x.until(times[i], what), due[i][what], 0);
            }
        }
        x = Check.loaded("a b;" + "pay a>b 9 at 1;".repeat(16) + "pay b>a 9 at 2;".repeat(16));
        Check.due("256 ROUNDS", x.until(2, 0), 256);
        Check.due("one ALARM", x.until(2, 1), 1);
    }

    // ---- 45: need

    static void promise45_which() {
        for (int which : new int[] {-1, 1, 4, MIN, MAX}) {
            refused("need(" + which + ")", 1, x -> x.need(which));
            Edges.refused(Edges::empty, "need(" + which + ")", 1, x -> x.need(which));
        }
        for (int which : new int[] {0, 2, 3}) {
            Edges.refused(Edges::empty, "need(" + which + ")", 5, x -> x.need(which));
            Edges.refused(Edges::full, "need(" + which + ")", 5, x -> x.need(which));
        }
        quiet("need(0)", 10, x -> x.need(0));
        quiet("need(2)", 0, x -> x.need(2));
        quiet("need(3)", 0, x -> x.need(3));
    }

    private static void need(String text, int which, int due) {
        RoundTrips x = Check.loaded(text);
        if (due < 0) {
            Check.refused(x, "need(" + which + ") of " + text, x.need(which), 5);
            return;
        }
        Check.due(x, "need(" + which + ") of " + text, x.need(which), due, 0);
        if (x.bounds(which) != due) {
            x.bound(which, due);
        }
        Check.due("by it there is a ROUND", x.many(3) > 0, true);
        if (due > 0) {
            x.bound(which, due - 1);
            Check.due("by one less there is none", x.many(3), 0);
        }
    }

    static void promise45_window() {
        need("a b;window 0;pay a>b 9 at 0;pay b>a 9 at 1;", 0, 1);
        need("a b;window 0;pay a>b 9 at 0;pay b>a 9 at 9999;", 0, 9999);
        need("a b;window 9999;pay a>b 9 at 0;pay b>a 9 at 9998;", 0, 9998);
        need("a b;window 5;pay a>b 9 at 0;pay b>a 9 at 0;", 0, -1);
        need("a b;loss 0;pay a>b 9 at 0;pay b>a 8 at 1;", 0, -1);
        need("a b;trust b;pay a>b 9 at 0;pay b>a 9 at 1;", 0, -1);
        need("a b c;longest 2;pay a>b 9 at 0;pay b>c 9 at 1;pay c>a 9 at 2;", 0, -1);
        need("a b c;longest 3;pay a>b 9 at 0;pay b>c 9 at 1;pay c>a 9 at 2;", 0, 2);
        need("a b;pay a>b 9 at 0;pay a>b 9 at 50;pay b>a 9 at 70;pay b>a 9 at 90;", 0, 20);
        // of ROUNDS of 6, 7, 6, 5, 6, 4, 5: the least wherever it stands
        int[] spans = {6, 7, 6, 5, 6, 4, 5};
        StringBuilder text = new StringBuilder("a b;loss 0;");
        int[] least = {6, 6, 6, 5, 5, 4, 4};
        for (int i = 0; i < spans.length; i++) {
            text.append(Edges.pay(0, 1, i + 1, 10 * i)).append(Edges.pay(1, 0, i + 1, 10 * i + spans[i]));
            need(text.toString(), 0, least[i]);
        }
    }

    static void promise45_loss() {
        need("a b;loss 90;pay a>b 1000 at 0;pay b>a 1000 at 1;", 2, 0);
        need("a b;loss 0;pay a>b 1000 at 0;pay b>a 999 at 1;", 2, 1);
        need("a b;loss 0;pay a>b 1000 at 0;pay b>a 990 at 1;", 2, 1);
        need("a b;loss 0;pay a>b 1000 at 0;pay b>a 989 at 1;", 2, 2);
        need("a b;loss 0;pay a>b 1000 at 0;pay b>a 110 at 1;", 2, 89);
        need("a b;loss 0;pay a>b 1000 at 0;pay b>a 109 at 1;", 2, 90);
        need("a b;loss 90;pay a>b 1000 at 0;pay b>a 100 at 1;", 2, 90);
        need("a b;loss 90;pay a>b 1000 at 0;pay b>a 99 at 1;", 2, -1);
        need("a b;gain 0;pay a>b 1000 at 0;pay b>a 1001 at 1;", 2, -1);
        need("a b;window 9;pay a>b 1000 at 0;pay b>a 950 at 10;", 2, -1);
        need("a b;window 10;pay a>b 1000 at 0;pay b>a 950 at 10;", 2, 5);
        need("a b c;pay a>b 1000 at 0;pay b>c 800 at 1;pay c>a 720 at 2;", 2, 20);
        for (int least = 0; least <= 90; least++) {
            need("a b;loss " + (90 - least) + ";pay a>b 1000 at 0;pay b>a " + (1000 - 10 * least) + " at 1;", 2, least);
        }
    }

    static void promise45_gain() {
        need("a b;gain 90;pay a>b 1000 at 0;pay b>a 1000 at 1;", 3, 0);
        need("a b;pay a>b 1000 at 0;pay b>a 1001 at 1;", 3, 1);
        need("a b;pay a>b 1000 at 0;pay b>a 1010 at 1;", 3, 1);
        need("a b;pay a>b 1000 at 0;pay b>a 1011 at 1;", 3, 2);
        need("a b;pay a>b 1000 at 0;pay b>a 1890 at 1;", 3, 89);
        need("a b;pay a>b 1000 at 0;pay b>a 1891 at 1;", 3, 90);
        need("a b;pay a>b 1000 at 0;pay b>a 1900 at 1;", 3, 90);
        need("a b;gain 90;pay a>b 1000 at 0;pay b>a 1901 at 1;", 3, -1);
        need("a b;loss 0;pay a>b 1000 at 0;pay b>a 999 at 1;", 3, -1);
        for (int least = 0; least <= 90; least++) {
            need("a b;gain " + (90 - least) + ";pay a>b 1000 at 0;pay b>a " + (1000 + 10 * least) + " at 1;", 3, least);
        }
    }

    public static void main(String[] args) throws ReflectiveOperationException {
        Edges.run(AdviceEdgesTest.class, 39, 45);
    }
}
