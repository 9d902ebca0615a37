import java.util.function.IntFunction;

/** Behind each ACT, undo() and back() all answers are those of a new object that has the same book: nothing old is left. */
public final class ChangedBookTest {
    // Many ROUNDS of many RINGS: each change leaves fewer or others.
    private static final String RICH = "a b c d e;longest 5;loss 60;gain 60;window 60;pay a>b 100 at 1;pay b>c 95 at 2;"
        + "pay c>d 80 at 3;pay d>e 60 at 4;pay b>a 90 at 5;pay c>a 99 at 5;pay d>a 70 at 6;pay d>b 66 at 6;pay e>a 66 at 7;"
        + "pay e>c 63 at 7;pay a>c 85 at 7;pay c>b 88 at 8;pay b>a 77 at 9;pay d>c 55 at 9;pay a>b 50 at 10;pay e>d 55 at 11;"
        + "pay b>d 61 at 12;pay d>a 60 at 13;";

    private ChangedBookTest() { }

    private static String textOf(RoundTrips x) {
        StringBuilder text = new StringBuilder();
        int accounts = x.many(0);
        for (int a = 0; a < accounts; a++) {
            text.append((char) ('a' + a)).append(a + 1 < accounts ? ' ' : ';');
        }
        String[] words = {"window ", "longest ", "loss ", "gain "};
        for (int which = 0; which < 4; which++) {
            text.append(words[which]).append(x.bounds(which)).append(';');
        }
        for (int a = 0; a < accounts; a++) {
            text.append(x.account(a, 4) == 1 ? "trust " + (char) ('a' + a) + ";" : "");
        }
        for (int t = 0; t < x.many(1); t++) {
            text.append(Edges.pay(x.transfer(t, 0), x.transfer(t, 1), x.transfer(t, 3), x.transfer(t, 2)));
        }
        return text.toString();
    }

    /** The same questions of an object in the state that is asked for and of a new one: no object for more than 512 calls. */
    private static void alike(String name, Edges.World world, int questions, IntFunction<Edges.Call> asked) {
        String text = textOf(world.make());
        RoundTrips x = world.make();
        RoundTrips y = Check.loaded(text);
        for (int i = 0; i < questions; i++) {
            if (i % 200 == 199) {
                x = world.make();
                y = Check.loaded(text);
            }
            Edges.Call call = asked.apply(i);
            Check.due(name + ", question " + i, call.on(x), call.on(y));
            Check.due(name + ", status() of question " + i, x.status(), y.status());
        }
    }

    private static void asNew(String name, Edges.World world) {
        alike(name + ": many", world, 11, i -> x -> i == 5 || i == 6 ? 0 : x.many(i));
        alike(name + ": transfer", world, 20 * 7, i -> x -> x.transfer(i / 7, i % 7));
        alike(name + ": account", world, 6 * 8, i -> x -> x.account(i / 8, i % 8));
        alike(name + ": round", world, 40 * 7, i -> x -> x.round(i / 7, i % 7));
        alike(name + ": hop", world, 40 * 6, i -> x -> x.hop(i / 6, i % 6));
        alike(name + ": alarm", world, 30 * 5, i -> x -> x.alarm(i / 5, i % 5));
        alike(name + ": ring", world, 30 * 6, i -> x -> x.ring(i / 6, i % 6));
        alike(name + ": cluster", world, 30, i -> x -> x.cluster(i));
        alike(name + ": hinge", world, 30, i -> x -> x.hinge(i));
        alike(name + ": closed", world, 20 * 12, i -> x -> x.closed(i / 12, i % 12));
        alike(name + ": would", world, 36, i -> x -> x.would(i / 6, i % 6, 80, 14));
        alike(name + ": top, peak", world, 6, i -> x -> i < 4 ? x.top(i) : x.peak(i - 4));
        alike(name + ": left", world, 20, i -> x -> x.left(i));
        alike(name + ": standing", world, 160, i -> x -> x.standing(i / 2, i % 2));
        alike(name + ": ranked, heat", world, 12, i -> x -> i < 6 ? x.ranked(i) : x.heat(i - 6));
        alike(name + ": soonest", world, 72, i -> x -> x.soonest(i / 12, i / 2 % 6, 0, i % 2));
        alike(name + ": step", world, 144, i -> x -> x.step(i / 24, i / 4 % 6, 0, i % 4));
        alike(name + ": most", world, 36, i -> x -> x.most(i / 6, i % 6, 2));
        alike(name + ": reach, chain", world, 12, i -> x -> i < 6 ? x.reach(i, 3) : x.chain(i - 6, 0));
        alike(name + ": part", world, 60, i -> x -> x.part(i % 6, 13, i / 6));
        alike(name + ": parts", world, 60, i -> x -> x.parts(13, i / 4, i % 4));
        alike(name + ": freeze", world, 1, i -> RoundTrips::freeze);
        alike(name + ": without", world, 33, i -> x -> x.without(i));
        alike(name + ": funnel", world, 20 * 6, i -> x -> x.funnel(i / 6, 9, i % 6));
        alike(name + ": funnels", world, 20, i -> x -> x.funnels(i / 2, i % 2 == 0));
        alike(name + ": until", world, 45, i -> x -> x.until(i / 3, i % 3));
        alike(name + ": need", world, 4, i -> x -> x.need(i));
    }

    // All is asked that is counted ahead, so that something old could be left.
    private static RoundTrips asked(RoundTrips x) {
        for (int what = 0; what <= 10; what++) {
            x.many(what);
        }
        x.freeze();
        x.standing(12, 1);
        x.alarm(0, 4);
        x.soonest(0, 4, 0, 0);
        x.parts(13, 9, 0);
        x.would(0, 1, 80, 14);
        x.need(2);
        return x;
    }

    private static void behind(String name, Edges.Call act) {
        asNew(name, () -> {
            RoundTrips x = asked(Check.loaded(RICH));
            act.on(x);
            return x;
        });
        asNew("undo() of " + name, () -> {
            RoundTrips x = Check.loaded(RICH);
            act.on(x);
            asked(x);
            x.undo();
            return x;
        });
        asNew("back() ahead of " + name, () -> {
            RoundTrips x = Check.loaded(RICH);
            x.mark();
            act.on(x);
            asked(x);
            x.back();
            return x;
        });
    }

    public static void main(String[] args) {
        RoundTrips x = Check.loaded(RICH);
        Check.due("TRANSFERS", x.many(1), 18);
        Check.due("ROUNDS", x.many(3), 28);
        Check.due("ALARMS", x.many(4), 17);
        behind("nothing", y -> 0);
        behind("load()", y -> Check.load(y, "a b c;pay a>b 5 at 1;pay b>a 5 at 2;"));
        behind("load() of none", y -> y.load(0));
        behind("add()", RoundTrips::add);
        behind("pay()", y -> y.pay(4, 0, 60, 12));
        for (int t = 0; t < 18; t++) {
            int transfer = t;
            behind("strike(" + t + ")", y -> y.strike(transfer));
        }
        for (int a = 0; a < 5; a++) {
            int account = a;
            behind("trust(" + a + ", true)", y -> y.trust(account, true) ? 1 : 0);
            behind("join(" + a + ", ..)", y -> y.join(account, (account + 1) % 5));
        }
        behind("bound(0, 3)", y -> y.bound(0, 3));
        behind("bound(1, 2)", y -> y.bound(1, 2));
        behind("bound(2, 5)", y -> y.bound(2, 5));
        behind("bound(3, 0)", y -> y.bound(3, 0));
        Check.end("ChangedBookTest");
    }
}
