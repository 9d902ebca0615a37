import java.util.Random;

/** Runs of calls, the same ones each time, whose answers are compared with those of Naive. */
public final class RandomRunsTest {
    private static final String[] WORDS = {"pay", "at", "trust", "window", "longest", "loss", "gain", "a", "b", "c",
        "d", "abcdef", "abcdefg", "windows", ">", ";", ";", ";", "0", "1", "5", "90", "91", "0000", "9999", "00001", "#",
        "\n", "=", "\u00e4", "\0"};

    private final Random random;
    private final RoundTrips x = new RoundTrips();
    private final Naive y = new Naive();
    private final String run;
    private final int accounts;
    private final int latest;
    private final int most;
    private final boolean dense;
    private final boolean crowded;
    private int calls;

    private RandomRunsTest(int seed) {
        random = new Random(seed);
        crowded = seed % 20 == 0;
        dense = seed % 2 == 0;
        run = "run " + seed + ": ";
        accounts = crowded ? 5 + random.nextInt(3) : 2 + random.nextInt(5);
        latest = 4 + random.nextInt(40);
        most = crowded ? 32 : dense ? 12 + random.nextInt(7) : 6 + random.nextInt(10);
    }

    private int below(int n) {
        return random.nextInt(n);
    }

    private void due(String call, long got, long want) {
        calls += 2;
        Check.due(run + call, got, want);
        Check.due(run + "status() behind " + call, x.status(), y.status());
    }

    private int much() {
        if (dense && below(8) > 0) {
            return 1000 + 50 * below(4);
        }
        int[] some = {1000, 1000, 950, 900, 905, 1050, 1100, 500, 480, 1900, 2000, 100, 1, 9999};
        return below(12) == 0 ? below(10001) : some[below(some.length)];
    }

    private int time() {
        return below(40) == 0 ? below(2) * 10002 - 1 : below(latest);
    }

    private int account() {
        return below(30) == 0 ? below(14) - 1 : below(Math.max(1, y.s.accounts));
    }

    private int index(int count) {
        return below(30) == 0 ? -1 : below(count + 1);
    }

    private int transferNumber() {
        return index(y.s.pays.size());
    }

    private int what(int most) {
        return below(25) == 0 ? below(2) * (most + 2) - 1 : below(most + 1);
    }

    private int breadth() {
        return below(25) == 0 ? below(2) * 10001 - 1 : below(3) == 0 ? below(5) : below(latest);
    }

    private String bookText() {
        StringBuilder text = new StringBuilder();
        int n = Math.max(2, accounts);
        for (int a = 0; a < n; a++) {
            text.append((char) ('a' + a)).append(a + 1 < n ? ' ' : ';');
        }
        for (int i = below(8); i > 0; i--) {
            int from = below(n);
            text.append("pay ").append((char) ('a' + from)).append('>').append((char) ('a' + (from + 1 + below(n - 1)) % n))
                .append(' ').append(Math.min(9999, Math.max(1, much()))).append(" at ").append(below(latest)).append(";\n");
        }
        String[] more = {"window 20;", "longest 5;", "loss 50;", "gain 10;", "trust a;"};
        for (String line : more) {
            text.append(below(3) == 0 ? line : "");
        }
        return text.toString();
    }

    private String garbled(String text) {
        StringBuilder out = new StringBuilder(text);
        for (int i = 1 + below(2); i > 0 && out.length() > 0; i--) {
            int at = below(out.length());
            if (below(2) == 0) {
                out.deleteCharAt(at);
            } else {
                out.insert(at, WORDS[below(WORDS.length)]);
            }
        }
        return out.toString();
    }

    private String wordText() {
        StringBuilder out = new StringBuilder(below(2) == 0 ? "a b;" : "");
        for (int i = below(8); i > 0; i--) {
            out.append(WORDS[below(WORDS.length)]).append(below(2) == 0 ? " " : "");
        }
        return out.toString();
    }

    private void load() {
        int way = below(6);
        String text = way < 2 ? bookText() : way < 5 ? garbled(bookText()) : wordText();
        for (int at = 0; at < text.length(); at += 20) {
            int[] f = new int[5];
            for (int i = 0; i < 5; i++) {
                f[i] = Check.four(text, at + 4 * i);
            }
            due("feed", x.feed(f[0], f[1], f[2], f[3], f[4]), y.feed(f[0], f[1], f[2], f[3], f[4]));
        }
        int n = below(20) == 0 ? text.length() + 30 * below(3) - 20 : text.length();
        due("load of " + text, x.load(n), y.load(n));
        for (int what = -1; what < 3; what++) {
            due("fault(" + what + ") of " + text, x.fault(what), y.fault(what));
        }
    }

    private void act() {
        int a = account();
        int b = account();
        int c = much();
        int d = time();
        switch (dense && below(2) == 0 ? 13 : below(14)) {
            case 0 -> due("add", x.add(), y.add());
            case 1 -> {
                int t = transferNumber();
                due("strike", x.strike(t), y.strike(t));
            }
            case 2 -> {
                boolean on = below(3) == 0;
                due("trust", x.trust(a, on) ? 1 : 0, y.trust(a, on) ? 1 : 0);
            }
            case 3, 4 -> {
                int which = what(3);
                int[] some = {latest / 2 + below(latest), 2 + below(4), below(3) == 0 ? below(92) : 50,
                    below(3) == 0 ? below(92) : 90};
                int bound = below(10) == 0 ? d : some[Math.min(3, Math.max(0, which))];
                due("bound", x.bound(which, bound), y.bound(which, bound));
            }
            case 5 -> {
                if (below(dense ? 8 : 3) == 0) {
                    due("join", x.join(a, b), y.join(a, b));
                }
            }
            case 6 -> due("undo", x.undo(), y.undo());
            case 7 -> due("mark", x.mark(), y.mark());
            case 8 -> due("back", x.back(), y.back());
            case 9 -> {
                if (below(dense ? 15 : 4) == 0) {
                    load();
                }
            }
            default -> {
                if (y.s.pays.size() < most) {
                    due("pay", x.pay(a, b, c, d), y.pay(a, b, c, d));
                }
            }
        }
    }

    private void askRounds() {
        int t = transferNumber();
        int r = index(3 + y.rounds(y.s).size());
        int al = index(1 + y.rings().size());
        int w = what(3);
        switch (below(14)) {
            case 0 -> {
                int v = what(6);
                due("round", x.round(r, v), y.round(r, v));
            }
            case 1 -> due("hop", x.hop(r, w), y.hop(r, w));
            case 2, 3 -> {
                int v = what(4);
                due("alarm", x.alarm(al, v), y.alarm(al, v));
            }
            case 4 -> due("ring", x.ring(al, w), y.ring(al, w));
            case 5 -> due("closed", x.closed(t, w), y.closed(t, w));
            case 6 -> {
                int a = account();
                int b = account();
                int c = much();
                int d = time();
                due("would", x.would(a, b, c, d), y.would(a, b, c, d));
            }
            case 7 -> due("top", x.top(w), y.top(w));
            case 8 -> due("left", x.left(t), y.left(t));
            case 9 -> due("cluster", x.cluster(al), y.cluster(al));
            case 10 -> due("hinge", x.hinge(al), y.hinge(al));
            case 11 -> {
                int time = time();
                int v = what(1);
                due("standing", x.standing(time, v), y.standing(time, v));
            }
            case 12 -> {
                int v = what(1);
                due("peak", x.peak(v), y.peak(v));
            }
            default -> {
                int i = index(y.s.accounts);
                due("ranked", x.ranked(i), y.ranked(i));
            }
        }
    }

    private void askWays() {
        int a = account();
        int b = account();
        int time = below(3) > 0 ? below(4) : time();
        int i = what(3);
        int br = breadth();
        switch (below(7)) {
            case 0 -> {
                int v = what(1);
                due("soonest", x.soonest(a, b, time, v), y.soonest(a, b, time, v));
            }
            case 1 -> due("step", x.step(a, b, time, i), y.step(a, b, time, i));
            case 2 -> due("most", x.most(a, b, time), y.most(a, b, time));
            case 3 -> due("reach", x.reach(a, time), y.reach(a, time));
            case 4 -> due("chain", x.chain(a, time), y.chain(a, time));
            case 5 -> {
                int late = time();
                due("part", x.part(a, late, br), y.part(a, late, br));
            }
            default -> {
                int late = time();
                due("parts", x.parts(late, br, i), y.parts(late, br, i));
            }
        }
    }

    private void askMore() {
        int a = account();
        int t = transferNumber();
        int time = time();
        int br = breadth();
        int w = what(5);
        switch (below(9)) {
            case 0 -> due("freeze", x.freeze(), y.freeze());
            case 1 -> {
                int set = below(10) == 0 ? below(2) * 5000 - 1 : below(1 << Math.min(12, y.s.accounts + below(2) * below(2)));
                due("without", x.without(set), y.without(set));
            }
            case 2 -> due("heat", x.heat(a), y.heat(a));
            case 3 -> due("funnel", x.funnel(t, br, w), y.funnel(t, br, w));
            case 4 -> {
                boolean scatter = below(2) == 0;
                due("funnels", x.funnels(br, scatter), y.funnels(br, scatter));
            }
            case 5 -> {
                int v = what(2);
                due("until", x.until(time, v), y.until(time, v));
            }
            case 6 -> {
                int v = what(3);
                due("need", x.need(v), y.need(v));
            }
            case 7 -> {
                int v = what(10);
                due("many", x.many(v), y.many(v));
            }
            default -> {
                int v = what(3);
                due("bounds", x.bounds(v), y.bounds(v));
            }
        }
    }

    private void ask() {
        int a = account();
        int t = transferNumber();
        int w = what(7);
        switch (below(6)) {
            case 0 -> due("account", x.account(a, w), y.account(a, w));
            case 1 -> {
                int v = what(6);
                due("transfer", x.transfer(t, v), y.transfer(t, v));
            }
            case 2, 3 -> askRounds();
            case 4 -> askWays();
            default -> askMore();
        }
    }

    private void fill() {
        due("bound(2, 90)", x.bound(2, 90), y.bound(2, 90));
        due("bound(3, 90)", x.bound(3, 90), y.bound(3, 90));
        due("bound(1, 5)", x.bound(1, 5), y.bound(1, 5));
        for (int turn = 0; turn < (crowded ? 60 : 20) && y.s.pays.size() < most; turn++) {
            int a = account();
            int b = account();
            int c = much();
            int d = time();
            due("pay", x.pay(a, b, c, d), y.pay(a, b, c, d));
        }
    }

    private void go() {
        if (below(4) > 0) {
            load();
        }
        while (y.s.accounts < accounts) {
            due("add", x.add(), y.add());
        }
        if (dense) {
            fill();
        }
        // An ACT is at most some fifty calls (a text is fed by many): the object stays within its 512.
        while (calls < 450) {
            if (below(crowded ? 40 : 3) == 0) {
                act();
            } else {
                ask();
            }
        }
    }

    public static void main(String[] args) {
        int runs = args.length > 0 ? Integer.parseInt(args[0]) : 600;
        for (int seed = 0; seed < runs; seed++) {
            new RandomRunsTest(seed).go();
        }
        Check.end("RandomRunsTest");
    }
}
