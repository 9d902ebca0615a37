import java.util.Arrays;

/** A watch on payments that go round; ../shared/DOC.md tells what each call answers. */
public final class RoundTrips {
    public static final int NONE = -1;

    private static final int MOST_ACCOUNTS = 12;
    private static final int MOST_TRANSFERS = 32;
    private static final int MOST_BYTES = 800;
    private static final int MOST_TIME = 9999;
    private static final int MOST_AMOUNT = 9999;
    private static final int MOST_RATE = 90;
    private static final int MOST_HOPS = 5;
    private static final int MOST_ACTS = 10;
    private static final int MOST_MARKS = 3;

    private static final int WINDOW = 0;
    private static final int LONGEST = 1;
    private static final int LOSS = 2;
    private static final int GAIN = 3;
    private static final int BOUNDS = 4;

    private static final int FINE = 0;
    private static final int CANT_BE = 1;
    private static final int NO_ACCOUNT = 2;
    private static final int TOO_MANY = 3;
    private static final int SO_ALREADY = 4;
    private static final int NOT_THERE = 5;
    private static final int BOTH_ONE = 6;
    private static final int BAD_SET = 7;
    private static final int FAULTY = 9;

    private final Book book = new Book();
    private final Reader reader = new Reader();
    private final History history = new History();
    private final Rounds rounds = new Rounds();
    private final Closers closers = new Closers();
    private final Narrowest narrowest = new Narrowest();
    private final Ways ways = new Ways();
    private final Parts parts = new Parts();
    private int status;
    private boolean stale;

    public RoundTrips() {
        status = FINE;
        stale = true;
    }

    public int status() {
        return status;
    }

    public int feed(int a, int b, int c, int d, int e) {
        if (reader.fed + 20 > MOST_BYTES) {
            return NONE;
        }
        reader.append(a);
        reader.append(b);
        reader.append(c);
        reader.append(d);
        reader.append(e);
        return reader.fed;
    }

    // ---- the book, ACTS

    public int load(int n) {
        if (n < 0 || n > reader.fed) {
            return none(CANT_BE);
        }
        reader.read(n);
        if (reader.fault != 0) {
            return none(FAULTY);
        }
        beginAct();
        book.copy(reader.book);
        return answer(book.accounts);
    }

    public int fault(int what) {
        if (what == 0) {
            return reader.fault;
        }
        return what == 1 ? reader.place : NONE;
    }

    public int many(int what) {
        switch (what) {
            case 0:
                return answer(book.accounts);
            case 1:
                return answer(book.transfers);
            case 2:
                return answer(book.trusted);
            case 3:
                return answer(freshRounds().count);
            case 4:
                return answer(freshRounds().alarms.count);
            case 5:
                return answer(history.acts);
            case 6:
                return answer(history.marks);
            case 7:
                return answer(book.allAmounts());
            case 8:
                return answer(freshRounds().alarms.allOfTwo() ? 1 : 0);
            case 9:
                return answer(freshRounds().alarms.clusters());
            case 10:
                return answer(freshRounds().netted);
            default:
                return none(CANT_BE);
        }
    }

    public int bounds(int which) {
        if (outside(which, 0, BOUNDS - 1)) {
            return none(CANT_BE);
        }
        return answer(book.bounds[which]);
    }

    public int transfer(int transfer, int what) {
        if (transfer < 0 || outside(what, 0, 6)) {
            return none(CANT_BE);
        }
        if (!book.hasTransfer(transfer)) {
            return none(NOT_THERE);
        }
        switch (what) {
            case 0:
                return answer(book.from[transfer]);
            case 1:
                return answer(book.to[transfer]);
            case 2:
                return answer(book.time[transfer]);
            case 3:
                return answer(book.amount[transfer]);
            case 4:
                return answer(freshRounds().uses[transfer]);
            case 5:
                return answer(freshRounds().closes[transfer]);
            default:
                return answer(freshRounds().count - freshRounds().uses[transfer]);
        }
    }

    public int account(int account, int what) {
        if (outside(what, 0, 7)) {
            return none(CANT_BE);
        }
        if (!book.hasAccount(account)) {
            return none(NO_ACCOUNT);
        }
        switch (what) {
            case 0:
                return answer(book.countAt(account, true));
            case 1:
                return answer(book.countAt(account, false));
            case 2:
                return answer(book.amountAt(account, true));
            case 3:
                return answer(book.amountAt(account, false));
            case 4:
                return answer(book.isTrusted(account) ? 1 : 0);
            case 5:
                return answer(freshRounds().touched[account]);
            case 6:
                return answer(freshRounds().alarms.countWith(account));
            default:
                return answer(book.lowestHeld(account));
        }
    }

    public int add() {
        if (book.accounts >= MOST_ACCOUNTS) {
            return none(TOO_MANY);
        }
        beginAct();
        book.accounts++;
        return answer(book.accounts - 1);
    }

    public int pay(int from, int to, int amount, int time) {
        int why = whyNoTransfer(from, to, amount, time);
        if (why != FINE) {
            return none(why);
        }
        beginAct();
        return answer(book.insert(from, to, amount, time));
    }

    public int strike(int transfer) {
        if (transfer < 0) {
            return none(CANT_BE);
        }
        if (!book.hasTransfer(transfer)) {
            return none(NOT_THERE);
        }
        beginAct();
        book.removeAt(transfer);
        return answer(book.transfers);
    }

    public boolean trust(int account, boolean trusted) {
        if (!book.hasAccount(account)) {
            return refuse(NO_ACCOUNT);
        }
        if (book.isTrusted(account) == trusted) {
            return refuse(SO_ALREADY);
        }
        beginAct();
        book.trusted ^= 1 << account;
        status = FINE;
        return true;
    }

    public int bound(int which, int much) {
        if (!Book.boundCanBe(which, much)) {
            return none(CANT_BE);
        }
        int was = book.bounds[which];
        if (was == much) {
            return none(SO_ALREADY);
        }
        beginAct();
        book.bounds[which] = much;
        return answer(was);
    }

    public int join(int account, int other) {
        if (!book.hasAccount(account) || !book.hasAccount(other)) {
            return none(NO_ACCOUNT);
        }
        if (account == other) {
            return none(BOTH_ONE);
        }
        beginAct();
        return answer(book.merge(Math.min(account, other), Math.max(account, other)));
    }

    public int undo() {
        if (history.acts == 0) {
            return none(NOT_THERE);
        }
        history.undoLatest(book);
        stale = true;
        return answer(history.acts);
    }

    public int mark() {
        if (history.marks >= MOST_MARKS) {
            return none(TOO_MANY);
        }
        history.keepMark(book);
        return answer(history.marks);
    }

    public int back() {
        if (history.marks == 0) {
            return none(NOT_THERE);
        }
        history.takeMark(book);
        stale = true;
        return answer(history.marks);
    }

    // ---- rounds, alarms

    public int round(int round, int what) {
        if (round < 0 || outside(what, 0, 6)) {
            return none(CANT_BE);
        }
        Rounds all = freshRounds();
        if (round >= all.count) {
            return none(NOT_THERE);
        }
        switch (what) {
            case 0:
                return answer(all.lengthOf(round));
            case 1:
                return answer(all.firstTime(round));
            case 2:
                return answer(all.lastTime(round));
            case 3:
                return answer(all.flowOf(round));
            case 4:
                return answer(all.alarmAt(round));
            case 5:
                return answer(bitsOf(all.keptOf(round)));
            default:
                return answer(bitsOf(all.paceOf(round)));
        }
    }

    public int hop(int round, int i) {
        if (round < 0 || i < 0) {
            return none(CANT_BE);
        }
        return known(freshRounds().hopOf(round, i));
    }

    public int alarm(int alarm, int what) {
        if (alarm < 0 || outside(what, 0, 4)) {
            return none(CANT_BE);
        }
        Rounds all = freshRounds();
        Alarms alarms = all.alarms;
        if (!alarms.has(alarm)) {
            return none(NOT_THERE);
        }
        switch (what) {
            case 0:
                return answer(alarms.rounds[alarm]);
            case 1:
                return answer(alarms.sizeOf(alarm));
            case 2:
                return answer(alarms.witness[alarm]);
            case 3:
                return answer(alarms.flow[alarm]);
            default:
                return answer(all.apartIn(alarm));
        }
    }

    public int ring(int alarm, int i) {
        if (alarm < 0 || i < 0) {
            return none(CANT_BE);
        }
        return known(freshRounds().alarms.accountOf(alarm, i));
    }

    public int closed(int transfer, int i) {
        if (transfer < 0 || i < 0) {
            return none(CANT_BE);
        }
        return known(freshRounds().closedBy(transfer, i));
    }

    public int would(int from, int to, int amount, int time) {
        int why = whyNoTransfer(from, to, amount, time);
        if (why != FINE) {
            return none(why);
        }
        return answer(closers.countFor(book, from, to, amount, time));
    }

    public int top(int what) {
        if (outside(what, 0, 3)) {
            return none(CANT_BE);
        }
        Rounds all = freshRounds();
        if (all.count == 0) {
            return none(NOT_THERE);
        }
        switch (what) {
            case 0:
                return answer(all.busiest());
            case 1:
                return answer(all.greatestFlow());
            case 2:
                return answer(all.greatestPace());
            default:
                return answer(all.leastKept());
        }
    }

    public int left(int transfer) {
        if (transfer < 0) {
            return none(CANT_BE);
        }
        if (!book.hasTransfer(transfer)) {
            return none(NOT_THERE);
        }
        return answer(freshRounds().unspent[transfer]);
    }

    public int cluster(int alarm) {
        if (alarm < 0) {
            return none(CANT_BE);
        }
        return known(freshRounds().alarms.clusterOf(alarm));
    }

    public int hinge(int alarm) {
        if (alarm < 0) {
            return none(CANT_BE);
        }
        return known(freshRounds().hingeOf(alarm));
    }

    public int standing(int time, int what) {
        if (notTime(time) || outside(what, 0, 1)) {
            return none(CANT_BE);
        }
        Rounds all = freshRounds();
        int since = time - book.bounds[WINDOW];
        return answer(what == 0 ? all.closedBetween(since, time) : all.alarmsBetween(since, time));
    }

    public int peak(int what) {
        if (outside(what, 0, 1)) {
            return none(CANT_BE);
        }
        Rounds all = freshRounds();
        if (all.count == 0) {
            return none(NOT_THERE);
        }
        int time = all.peakTime();
        return answer(what == 1 ? time : all.closedBetween(time - book.bounds[WINDOW], time));
    }

    public int ranked(int i) {
        if (i < 0) {
            return none(CANT_BE);
        }
        Rounds all = freshRounds();
        for (int account = 0; account < book.accounts; account++) {
            if (placeByHeat(all, account) == i) {
                return answer(account);
            }
        }
        return none(NOT_THERE);
    }

    // ---- ways, parts

    public int soonest(int from, int to, int time, int what) {
        int why = outside(what, 0, 1) ? CANT_BE : walk(from, to, time);
        if (why != FINE) {
            return none(why);
        }
        return answer(what == 0 ? ways.lastTime : ways.count);
    }

    public int step(int from, int to, int time, int i) {
        int why = i < 0 ? CANT_BE : walk(from, to, time);
        if (why != FINE) {
            return none(why);
        }
        return known(ways.transferAt(i));
    }

    public int most(int from, int to, int time) {
        int why = walk(from, to, time);
        return why == FINE ? answer(ways.most) : none(why);
    }

    public int reach(int from, int time) {
        int why = walkAnywhere(from, time);
        return why == FINE ? answer(ways.reached) : none(why);
    }

    public int chain(int from, int time) {
        int why = walkAnywhere(from, time);
        return why == FINE ? answer(ways.longest) : none(why);
    }

    public int part(int account, int time, int breadth) {
        if (notTime(time) || notTime(breadth)) {
            return none(CANT_BE);
        }
        if (!book.hasAccount(account)) {
            return none(NO_ACCOUNT);
        }
        parts.lay(book, time, breadth);
        return answer(parts.leastOf(account));
    }

    public int parts(int time, int breadth, int what) {
        if (notTime(time) || notTime(breadth) || outside(what, 0, 3)) {
            return none(CANT_BE);
        }
        parts.lay(book, time, breadth);
        switch (what) {
            case 0:
                return answer(parts.countFrom(1));
            case 1:
                return answer(parts.countFrom(2));
            case 2:
                return answer(parts.sizeOf(parts.greatest()));
            default:
                return answer(parts.greatest());
        }
    }

    // ---- what to do

    public int freeze() {
        return answer(freshRounds().alarms.fewestInAll(book.accounts));
    }

    public int without(int set) {
        if (set < 0) {
            return none(CANT_BE);
        }
        if (set >>> book.accounts != 0) {
            return none(BAD_SET);
        }
        return answer(freshRounds().alarms.roundsWithout(set));
    }

    public int heat(int account) {
        if (!book.hasAccount(account)) {
            return none(NO_ACCOUNT);
        }
        return answer(bitsOf(heatOf(freshRounds(), account)));
    }

    public int funnel(int transfer, int breadth, int what) {
        if (transfer < 0 || notTime(breadth) || outside(what, 0, 5)) {
            return none(CANT_BE);
        }
        if (!book.hasTransfer(transfer)) {
            return none(NOT_THERE);
        }
        boolean spray = what >= 3;
        switch (spray ? what - 3 : what) {
            case 0:
                return answer(book.funnelCount(transfer, breadth, spray));
            case 1:
                return answer(book.funnelAmount(transfer, breadth, spray));
            default:
                return answer(book.isFunnel(transfer, breadth, spray) ? 1 : 0);
        }
    }

    public int funnels(int breadth, boolean scatter) {
        if (notTime(breadth)) {
            return none(CANT_BE);
        }
        int count = 0;
        for (int t = 0; t < book.transfers; t++) {
            if (book.isFunnel(t, breadth, scatter)) {
                count++;
            }
        }
        return answer(count);
    }

    public int until(int time, int what) {
        if (notTime(time) || outside(what, 0, 2)) {
            return none(CANT_BE);
        }
        switch (what) {
            case 0:
                return answer(freshRounds().closedBetween(0, time));
            case 1:
                return answer(freshRounds().alarmsBetween(0, time));
            default:
                return answer(book.countUntil(time));
        }
    }

    public int need(int which) {
        if (which != WINDOW && which != LOSS && which != GAIN) {
            return none(CANT_BE);
        }
        return known(which == WINDOW ? narrowest.leastBy(book, WINDOW, MOST_TIME) : leastRate(which));
    }

    // ---- what the calls share

    private int answer(int value) {
        status = FINE;
        return value;
    }

    private int none(int why) {
        status = why;
        return NONE;
    }

    private boolean refuse(int why) {
        status = why;
        return false;
    }

    private int known(int value) {
        return value == NONE ? none(NOT_THERE) : answer(value);
    }

    private static boolean outside(int value, int least, int most) {
        return value < least || value > most;
    }

    private static boolean notTime(int time) {
        return outside(time, 0, MOST_TIME);
    }

    private void beginAct() {
        history.keepAct(book);
        stale = true;
    }

    private Rounds freshRounds() {
        if (stale) {
            rounds.gather(book);
            stale = false;
        }
        return rounds;
    }

    private int whyNoTransfer(int from, int to, int amount, int time) {
        if (outside(amount, 1, MOST_AMOUNT) || notTime(time)) {
            return CANT_BE;
        }
        if (!book.hasAccount(from) || !book.hasAccount(to)) {
            return NO_ACCOUNT;
        }
        if (book.transfers >= MOST_TRANSFERS) {
            return TOO_MANY;
        }
        return from == to ? BOTH_ONE : FINE;
    }

    private int walk(int from, int to, int time) {
        if (notTime(time)) {
            return CANT_BE;
        }
        if (!book.hasAccount(from) || !book.hasAccount(to)) {
            return NO_ACCOUNT;
        }
        if (from == to) {
            return BOTH_ONE;
        }
        ways.walk(book, from, to, time);
        return ways.count == 0 ? NOT_THERE : FINE;
    }

    private int walkAnywhere(int from, int time) {
        if (notTime(time)) {
            return CANT_BE;
        }
        if (!book.hasAccount(from)) {
            return NO_ACCOUNT;
        }
        ways.walk(book, from, NONE, time);
        return FINE;
    }

    private float heatOf(Rounds all, int account) {
        int count = book.countAt(account, true) + book.countAt(account, false);
        return (float) all.touched[account] / ((float) count + 1f);
    }

    private int placeByHeat(Rounds all, int account) {
        float heat = heatOf(all, account);
        int place = 0;
        for (int other = 0; other < book.accounts; other++) {
            float much = heatOf(all, other);
            if (much > heat || much == heat && other < account) {
                place++;
            }
        }
        return place;
    }

    // A greater LOSS or GAIN lets every ROUND of a lesser one be: so halving finds the least.
    private int leastRate(int which) {
        if (narrowest.leastBy(book, which, MOST_RATE) == NONE) {
            return NONE;
        }
        int low = 0;
        int high = MOST_RATE;
        for (int turn = 0; turn <= MOST_RATE && low < high; turn++) {
            int middle = (low + high) / 2;
            if (narrowest.leastBy(book, which, middle) != NONE) {
                high = middle;
            } else {
                low = middle + 1;
            }
        }
        return high;
    }

    // The library's own call for this is not among those allowed; halving and doubling are exact.
    private static int bitsOf(float value) {
        if (!(value > 0f)) {
            return 0;
        }
        float rest = value;
        int power = 127;
        for (int turn = 0; turn < 126 && rest >= 2f; turn++) {
            rest = rest / 2f;
            power++;
        }
        for (int turn = 0; turn < 126 && rest < 1f; turn++) {
            rest = rest * 2f;
            power--;
        }
        return power << 23 | (int) ((rest - 1f) * 8388608f);
    }

    private static int lowestBit(int bits) {
        return Integer.bitCount((bits & -bits) - 1);
    }

    /** ACCOUNTS, TRANSFERS in their order, BOUNDS. */
    private static final class Book {
        int accounts;
        int trusted;
        int transfers;
        final int[] from = new int[MOST_TRANSFERS];
        final int[] to = new int[MOST_TRANSFERS];
        final int[] time = new int[MOST_TRANSFERS];
        final int[] amount = new int[MOST_TRANSFERS];
        final int[] bounds = new int[BOUNDS];

        Book() {
            wipe();
        }

        void wipe() {
            accounts = 0;
            trusted = 0;
            transfers = 0;
            bounds[WINDOW] = 100;
            bounds[LONGEST] = 4;
            bounds[LOSS] = 10;
            bounds[GAIN] = 0;
        }

        void copy(Book other) {
            accounts = other.accounts;
            trusted = other.trusted;
            transfers = other.transfers;
            System.arraycopy(other.from, 0, from, 0, MOST_TRANSFERS);
            System.arraycopy(other.to, 0, to, 0, MOST_TRANSFERS);
            System.arraycopy(other.time, 0, time, 0, MOST_TRANSFERS);
            System.arraycopy(other.amount, 0, amount, 0, MOST_TRANSFERS);
            System.arraycopy(other.bounds, 0, bounds, 0, BOUNDS);
        }

        static boolean boundCanBe(int which, int much) {
            switch (which) {
                case WINDOW:
                    return much >= 0 && much <= MOST_TIME;
                case LONGEST:
                    return much >= 2 && much <= MOST_HOPS;
                case LOSS:
                case GAIN:
                    return much >= 0 && much <= MOST_RATE;
                default:
                    return false;
            }
        }

        boolean hasAccount(int account) {
            return account >= 0 && account < accounts && account < MOST_ACCOUNTS;
        }

        boolean hasTransfer(int transfer) {
            return transfer >= 0 && transfer < transfers && transfer < MOST_TRANSFERS;
        }

        boolean isTrusted(int account) {
            return (trusted >>> account & 1) != 0;
        }

        int insert(int source, int target, int much, int when) {
            if (transfers < 0 || transfers >= MOST_TRANSFERS) {
                return NONE;
            }
            int place = transfers;
            for (; place > 0 && time[place - 1] > when; place--) {
                moveTransfer(place - 1, place);
            }
            from[place] = source;
            to[place] = target;
            time[place] = when;
            amount[place] = much;
            transfers++;
            return place;
        }

        void removeAt(int transfer) {
            for (int t = transfer + 1; t < transfers; t++) {
                moveTransfer(t, t - 1);
            }
            transfers--;
        }

        int merge(int lesser, int greater) {
            int stay = 0;
            for (int t = 0; t < transfers; t++) {
                int source = mergedName(from[t], lesser, greater);
                int target = mergedName(to[t], lesser, greater);
                if (source != target) {
                    moveTransfer(t, stay);
                    from[stay] = source;
                    to[stay] = target;
                    stay++;
                }
            }
            int gone = transfers - stay;
            transfers = stay;
            accounts--;
            int below = trusted & (1 << greater) - 1;
            trusted = below | trusted >>> greater + 1 << greater;
            return gone;
        }

        private static int mergedName(int account, int lesser, int greater) {
            if (account == greater) {
                return lesser;
            }
            return account > greater ? account - 1 : account;
        }

        private void moveTransfer(int here, int there) {
            from[there] = from[here];
            to[there] = to[here];
            time[there] = time[here];
            amount[there] = amount[here];
        }

        boolean fits(int one, int other) {
            return 100 * other >= (100 - bounds[LOSS]) * one && 100 * other <= (100 + bounds[GAIN]) * one;
        }

        int stepsFrom(int transfer) {
            int steps = 0;
            for (int t = 0; t < transfers; t++) {
                if (from[t] == to[transfer] && time[t] > time[transfer]
                        && fits(amount[transfer], amount[t])) {
                    steps |= 1 << t;
                }
            }
            return steps;
        }

        int allAmounts() {
            int sum = 0;
            for (int t = 0; t < transfers; t++) {
                sum += amount[t];
            }
            return sum;
        }

        private boolean isAt(int transfer, int account, boolean outward) {
            return (outward ? from[transfer] : to[transfer]) == account;
        }

        int countAt(int account, boolean outward) {
            int count = 0;
            for (int t = 0; t < transfers; t++) {
                count += isAt(t, account, outward) ? 1 : 0;
            }
            return count;
        }

        int amountAt(int account, boolean outward) {
            int sum = 0;
            for (int t = 0; t < transfers; t++) {
                sum += isAt(t, account, outward) ? amount[t] : 0;
            }
            return sum;
        }

        int lowestHeld(int account) {
            int held = 0;
            int least = 0;
            for (int t = 0; t < transfers; t++) {
                if (from[t] == account) {
                    held -= amount[t];
                } else if (to[t] == account) {
                    held += amount[t];
                }
                least = Math.min(least, held);
            }
            return least;
        }

        int countUntil(int when) {
            int count = 0;
            for (int t = 0; t < transfers; t++) {
                count += time[t] <= when ? 1 : 0;
            }
            return count;
        }

        private boolean joinsFunnel(int other, int transfer, int breadth, boolean spray) {
            int gap = spray ? time[other] - time[transfer] : time[transfer] - time[other];
            boolean meets = spray ? from[other] == to[transfer] : to[other] == from[transfer];
            return meets && gap > 0 && gap <= breadth;
        }

        int funnelCount(int transfer, int breadth, boolean spray) {
            int count = 0;
            for (int t = 0; t < transfers; t++) {
                count += joinsFunnel(t, transfer, breadth, spray) ? 1 : 0;
            }
            return count;
        }

        int funnelAmount(int transfer, int breadth, boolean spray) {
            int sum = 0;
            for (int t = 0; t < transfers; t++) {
                sum += joinsFunnel(t, transfer, breadth, spray) ? amount[t] : 0;
            }
            return sum;
        }

        boolean isFunnel(int transfer, int breadth, boolean spray) {
            if (funnelCount(transfer, breadth, spray) < 2) {
                return false;
            }
            int sum = funnelAmount(transfer, breadth, spray);
            int one = spray ? amount[transfer] : sum;
            int other = spray ? sum : amount[transfer];
            return fits(one, other);
        }
    }

    /** The books as they were: ahead of the latest ACTS, and at the MARKS. */
    private static final class History {
        private final Book[] past = new Book[MOST_ACTS];
        private final Book[] marked = new Book[MOST_MARKS];
        private int newest;
        int acts;
        int marks;

        History() {
            for (int i = 0; i < MOST_ACTS; i++) {
                past[i] = new Book();
            }
            for (int i = 0; i < MOST_MARKS; i++) {
                marked[i] = new Book();
            }
        }

        void keepAct(Book book) {
            newest = (newest + 1) % MOST_ACTS;
            past[newest].copy(book);
            acts = Math.min(acts + 1, MOST_ACTS);
        }

        void undoLatest(Book book) {
            if (acts <= 0) {
                return;
            }
            book.copy(past[newest]);
            newest = (newest + MOST_ACTS - 1) % MOST_ACTS;
            acts--;
        }

        void keepMark(Book book) {
            if (marks < 0 || marks >= MOST_MARKS) {
                return;
            }
            marked[marks].copy(book);
            marks++;
        }

        void takeMark(Book book) {
            if (marks <= 0 || marks > MOST_MARKS) {
                return;
            }
            marks--;
            book.copy(marked[marks]);
        }
    }

    /** Keeps the tape, and reads the text of a BOOK from it up to its end or its first FAULT. */
    private static final class Reader {
        private static final int END = 0;
        private static final int WORD = 1;
        private static final int NUMBER = 2;
        private static final int SIGN = 3;
        private static final int BAD = 4;

        // Behind the BOUNDS, which are their own words' numbers.
        private static final int PAY = 4;
        private static final int TRUST = 5;
        private static final int AT = 6;

        // Five bits a letter, the last one lowest, as readWord() puts them together.
        private static final long PAY_LETTERS = ('p' & 31) << 10 | ('a' & 31) << 5 | 'y' & 31;
        private static final long AT_LETTERS = ('a' & 31) << 5 | 't' & 31;
        private static final long TRUST_LETTERS =
                ('t' & 31) << 20 | ('r' & 31) << 15 | ('u' & 31) << 10 | ('s' & 31) << 5 | 't' & 31;
        private static final long WINDOW_LETTERS =
                ('w' & 31) << 25 | ('i' & 31) << 20 | ('n' & 31) << 15 | ('d' & 31) << 10 | ('o' & 31) << 5 | 'w' & 31;
        private static final long LONGEST_LETTERS = ('l' & 31L) << 30 | ('o' & 31) << 25
                | ('n' & 31) << 20 | ('g' & 31) << 15 | ('e' & 31) << 10 | ('s' & 31) << 5 | 't' & 31;
        private static final long LOSS_LETTERS = ('l' & 31) << 15 | ('o' & 31) << 10 | ('s' & 31) << 5 | 's' & 31;
        private static final long GAIN_LETTERS = ('g' & 31) << 15 | ('a' & 31) << 10 | ('i' & 31) << 5 | 'n' & 31;

        private static final int NO_TOKEN = 1;
        private static final int CANT_STAND = 2;
        private static final int WRONG_NAME = 3;
        private static final int WRONG_NUMBER = 4;
        private static final int TOLD_ALREADY = 5;
        private static final int ONE_TOO_MANY = 6;

        final Book book = new Book();
        int fed;
        int fault = NONE;
        int place = NONE;
        private final byte[] text = new byte[MOST_BYTES];
        private final long[] names = new long[MOST_ACCOUNTS];
        private int length;
        private int told;
        private int kind;
        private int start;
        private int end;
        private int keyword;
        private long letters;

        void append(int four) {
            if (fed < 0 || fed + 4 > MOST_BYTES) {
                return;
            }
            for (int shift = 24; shift >= 0; shift -= 8) {
                text[fed] = (byte) (four >>> shift);
                fed++;
            }
        }

        void read(int n) {
            length = Math.max(0, Math.min(n, fed));
            fed = 0;
            book.wipe();
            told = 0;
            fault = 0;
            place = NONE;
            end = 0;
            advance();
            for (int lines = 0; lines <= length && fault == 0 && kind != END; lines++) {
                if (!stands(WORD)) {
                    return;
                }
                switch (keyword) {
                    case PAY:
                        readPay();
                        break;
                    case TRUST:
                        readTrust();
                        break;
                    case WINDOW:
                    case LONGEST:
                    case LOSS:
                    case GAIN:
                        readBound(keyword);
                        break;
                    default:
                        readNames();
                        break;
                }
            }
        }

        private void readNames() {
            for (int i = 0; i <= length && kind == WORD; i++) {
                if (!readNewName()) {
                    return;
                }
            }
            takeSign(';');
        }

        private boolean readNewName() {
            if (!isName()) {
                return failed(CANT_STAND);
            }
            if (accountNamed() != NONE) {
                return failed(WRONG_NAME);
            }
            if (book.accounts < 0 || book.accounts >= MOST_ACCOUNTS) {
                return failed(ONE_TOO_MANY);
            }
            names[book.accounts] = letters;
            book.accounts++;
            advance();
            return true;
        }

        private void readPay() {
            if (book.transfers >= MOST_TRANSFERS) {
                failed(ONE_TOO_MANY);
                return;
            }
            advance();
            int from = takeAccount(NONE);
            if (from == NONE || !takeSign('>')) {
                return;
            }
            int to = takeAccount(from);
            if (to == NONE) {
                return;
            }
            int amount = takeNumber(1, MOST_AMOUNT);
            if (amount == NONE || !takeAt()) {
                return;
            }
            int time = takeNumber(0, MOST_TIME);
            if (time != NONE && takeSign(';')) {
                book.insert(from, to, amount, time);
            }
        }

        private void readTrust() {
            advance();
            int account = knownAccount();
            if (account == NONE) {
                return;
            }
            if (book.isTrusted(account)) {
                failed(TOLD_ALREADY);
                return;
            }
            book.trusted |= 1 << account;
            advance();
            takeSign(';');
        }

        private void readBound(int which) {
            if ((told >>> which & 1) != 0) {
                failed(TOLD_ALREADY);
                return;
            }
            told |= 1 << which;
            advance();
            if (!stands(NUMBER)) {
                return;
            }
            int much = numberValue();
            if (!Book.boundCanBe(which, much)) {
                failed(WRONG_NUMBER);
                return;
            }
            book.bounds[which] = much;
            advance();
            takeSign(';');
        }

        // Answers false, so that a caller can end with it.
        private boolean failed(int why) {
            if (fault == 0) {
                fault = why;
                place = start;
            }
            return false;
        }

        private boolean stands(int wanted) {
            if (kind == BAD) {
                return failed(NO_TOKEN);
            }
            return kind == wanted || failed(CANT_STAND);
        }

        private boolean takeSign(char sign) {
            if (!stands(SIGN)) {
                return false;
            }
            if (byteAt(start) != sign) {
                return failed(CANT_STAND);
            }
            advance();
            return true;
        }

        private boolean takeAt() {
            if (!stands(WORD)) {
                return false;
            }
            if (keyword != AT) {
                return failed(CANT_STAND);
            }
            advance();
            return true;
        }

        private int takeNumber(int least, int most) {
            if (!stands(NUMBER)) {
                return NONE;
            }
            int value = numberValue();
            if (value < least || value > most) {
                failed(WRONG_NUMBER);
                return NONE;
            }
            advance();
            return value;
        }

        private int takeAccount(int unlike) {
            int account = knownAccount();
            if (account == NONE) {
                return NONE;
            }
            if (account == unlike) {
                failed(WRONG_NUMBER);
                return NONE;
            }
            advance();
            return account;
        }

        private int knownAccount() {
            if (!stands(WORD)) {
                return NONE;
            }
            if (!isName()) {
                failed(CANT_STAND);
                return NONE;
            }
            int account = accountNamed();
            if (account == NONE) {
                failed(WRONG_NAME);
            }
            return account;
        }

        private int accountNamed() {
            for (int account = 0; account < book.accounts && account < MOST_ACCOUNTS; account++) {
                if (names[account] == letters) {
                    return account;
                }
            }
            return NONE;
        }

        private boolean isName() {
            return keyword == NONE && end - start <= 6;
        }

        private int numberValue() {
            int value = 0;
            for (int at = start; at < end; at++) {
                value = value * 10 + (byteAt(at) - '0');
            }
            return value;
        }

        private void advance() {
            start = end;
            while (start < length && (byteAt(start) == ' ' || byteAt(start) == '\n')) {
                start++;
            }
            end = start;
            if (start >= length) {
                kind = END;
            } else if (isLetter(byteAt(start))) {
                readWord();
            } else if (isDigit(byteAt(start))) {
                readNumber();
            } else {
                kind = byteAt(start) == '>' || byteAt(start) == ';' ? SIGN : BAD;
                end++;
            }
        }

        private void readWord() {
            kind = WORD;
            letters = 0;
            while (end < length && isLetter(byteAt(end))) {
                letters = letters << 5 | byteAt(end) & 31;
                end++;
            }
            keyword = end - start <= 7 ? keywordHere() : NONE;
        }

        private void readNumber() {
            while (end < length && isDigit(byteAt(end))) {
                end++;
            }
            kind = end - start <= 4 ? NUMBER : BAD;
        }

        private int keywordHere() {
            if (letters == PAY_LETTERS) {
                return PAY;
            }
            if (letters == AT_LETTERS) {
                return AT;
            }
            if (letters == TRUST_LETTERS) {
                return TRUST;
            }
            if (letters == WINDOW_LETTERS) {
                return WINDOW;
            }
            if (letters == LONGEST_LETTERS) {
                return LONGEST;
            }
            if (letters == LOSS_LETTERS) {
                return LOSS;
            }
            return letters == GAIN_LETTERS ? GAIN : NONE;
        }

        private int byteAt(int at) {
            return at >= 0 && at < length ? text[at] & 255 : 0;
        }

        private static boolean isLetter(int sign) {
            return sign >= 'a' && sign <= 'z';
        }

        private static boolean isDigit(int sign) {
            return sign >= '0' && sign <= '9';
        }
    }

    /** Goes through all ROUNDS of a book, in the order of their numbers. */
    private abstract static class Hunt {
        final Book book = new Book();
        final int[] path = new int[MOST_HOPS];
        int window;
        private final int[] next = new int[MOST_TRANSFERS];

        /** The first count TRANSFERS of path are a ROUND. */
        abstract void meet(int count);

        final void hunt() {
            window = book.bounds[WINDOW];
            for (int t = 0; t < book.transfers; t++) {
                next[t] = book.stepsFrom(t);
            }
            for (int t = 0; t < book.transfers; t++) {
                if (!book.isTrusted(book.from[t]) && !book.isTrusted(book.to[t])) {
                    path[0] = t;
                    extend(this, 1, 1 << book.from[t] | 1 << book.to[t]);
                }
            }
        }

        private static void extend(Hunt hunt, int count, int been) {
            Book book = hunt.book;
            if (count < 1 || count >= MOST_HOPS || count >= book.bounds[LONGEST]) {
                return;
            }
            int first = hunt.path[0];
            int rest = hunt.next[hunt.path[count - 1]];
            for (int turn = 0; turn < MOST_TRANSFERS && rest != 0; turn++) {
                int t = lowestBit(rest);
                rest &= rest - 1;
                if (book.time[t] - book.time[first] > hunt.window) {
                    return;
                }
                hunt.path[count] = t;
                if (book.to[t] == book.from[first]) {
                    hunt.meet(count + 1);
                } else if (((been | book.trusted) >>> book.to[t] & 1) == 0) {
                    extend(hunt, count + 1, been | 1 << book.to[t]);
                }
            }
        }
    }

    /** Counts the ROUNDS that one TRANSFER CLOSES. */
    private static final class Closers extends Hunt {
        private int closing;
        private int found;

        int countFor(Book where, int from, int to, int amount, int time) {
            book.copy(where);
            closing = book.insert(from, to, amount, time);
            found = 0;
            hunt();
            return found;
        }

        void meet(int count) {
            if (path[count - 1] == closing) {
                found++;
            }
        }
    }

    /** Finds how little TIME a ROUND takes: the window is drawn in behind each that is met. */
    private static final class Narrowest extends Hunt {
        private int least;

        /** How little TIME a ROUND takes by another BOUND; NONE without a ROUND. */
        int leastBy(Book where, int which, int much) {
            book.copy(where);
            if (Book.boundCanBe(which, much)) {
                book.bounds[which] = much;
            }
            least = NONE;
            hunt();
            return least;
        }

        void meet(int count) {
            least = book.time[path[count - 1]] - book.time[path[0]];
            window = least - 1;
        }
    }

    /** All ROUNDS by their numbers, with what is counted of them. */
    private static final class Rounds extends Hunt {
        // No more choices of 2 to 5 out of 32 TRANSFERS there are.
        private static final int MOST_ROUNDS = 242792;

        int count;
        private int[] packed = new int[64];
        private int[] alarmOf = new int[64];
        final int[] uses = new int[MOST_TRANSFERS];
        final int[] closes = new int[MOST_TRANSFERS];
        final int[] touched = new int[MOST_ACCOUNTS];
        final int[] unspent = new int[MOST_TRANSFERS];
        private final int[] tally = new int[MOST_TRANSFERS];
        int netted;
        final Alarms alarms = new Alarms();

        void gather(Book where) {
            book.copy(where);
            count = 0;
            netted = 0;
            alarms.wipe();
            for (int t = 0; t < MOST_TRANSFERS; t++) {
                uses[t] = 0;
                closes[t] = 0;
                unspent[t] = book.amount[t];
            }
            hunt();
            for (int round = 0; round < count; round++) {
                countIn(round);
                net(round);
                alarmOf[round] = alarms.note(ringOf(round), round, spanOf(round), flowOf(round));
            }
            for (int account = 0; account < MOST_ACCOUNTS; account++) {
                touched[account] = alarms.roundsWith(account);
            }
        }

        // Five bits a TRANSFER, and above them how many: so a ROUND is one element of the room.
        void meet(int hops) {
            if (count >= packed.length && !widen()) {
                return;
            }
            int pack = 0;
            for (int i = 0; i < hops && i < MOST_HOPS; i++) {
                pack |= path[i] << 5 * i;
            }
            packed[count] = pack | hops << 5 * MOST_HOPS;
            count++;
        }

        private boolean widen() {
            if (packed.length >= MOST_ROUNDS) {
                return false;
            }
            packed = Arrays.copyOf(packed, packed.length * 2);
            alarmOf = Arrays.copyOf(alarmOf, packed.length);
            return true;
        }

        private void countIn(int round) {
            int hops = lengthOf(round);
            for (int i = 0; i < hops; i++) {
                uses[transferAt(round, i)]++;
            }
            closes[lastOf(round)]++;
        }

        private void net(int round) {
            int hops = lengthOf(round);
            int least = MOST_AMOUNT;
            for (int i = 0; i < hops; i++) {
                least = Math.min(least, unspent[transferAt(round, i)]);
            }
            for (int i = 0; i < hops; i++) {
                unspent[transferAt(round, i)] -= least;
            }
            netted += least;
        }

        // Four bits an ACCOUNT, one more than its number, the least ACCOUNT lowest.
        private int ringOf(int round) {
            int hops = lengthOf(round);
            int least = 0;
            for (int i = 1; i < hops; i++) {
                if (book.from[transferAt(round, i)] < book.from[transferAt(round, least)]) {
                    least = i;
                }
            }
            int ring = 0;
            for (int i = hops - 1; i >= 0; i--) {
                int at = least + i < hops ? least + i : least + i - hops;
                ring = ring << 4 | book.from[transferAt(round, at)] + 1;
            }
            return ring;
        }

        int hopOf(int round, int i) {
            return i >= 0 && i < lengthOf(round) ? transferAt(round, i) : NONE;
        }

        // Five bits are an index of the rows of TRANSFERS, whatever they are.
        private int transferAt(int round, int i) {
            if (round < 0 || round >= count || i < 0 || i >= MOST_HOPS) {
                return 0;
            }
            return packed[round] >>> 5 * i & 31;
        }

        private int lastOf(int round) {
            return transferAt(round, lengthOf(round) - 1);
        }

        int lengthOf(int round) {
            return round >= 0 && round < count ? packed[round] >>> 5 * MOST_HOPS : 0;
        }

        int alarmAt(int round) {
            return round >= 0 && round < count ? alarmOf[round] : NONE;
        }

        int firstTime(int round) {
            return book.time[transferAt(round, 0)];
        }

        int lastTime(int round) {
            return book.time[lastOf(round)];
        }

        private int spanOf(int round) {
            return lastTime(round) - firstTime(round);
        }

        int flowOf(int round) {
            int hops = lengthOf(round);
            int least = MOST_AMOUNT;
            for (int i = 0; i < hops; i++) {
                least = Math.min(least, book.amount[transferAt(round, i)]);
            }
            return least;
        }

        float keptOf(int round) {
            int first = book.amount[transferAt(round, 0)];
            return first <= 0 ? 0f : (float) book.amount[lastOf(round)] / (float) first;
        }

        float paceOf(int round) {
            int hops = lengthOf(round);
            int sum = 0;
            for (int i = 0; i < hops; i++) {
                sum += book.amount[transferAt(round, i)];
            }
            return (float) sum / ((float) spanOf(round) + 1f);
        }

        int busiest() {
            int best = 0;
            for (int account = 1; account < MOST_ACCOUNTS; account++) {
                if (touched[account] > touched[best]) {
                    best = account;
                }
            }
            return best;
        }

        int greatestFlow() {
            int best = 0;
            int most = flowOf(0);
            for (int round = 1; round < count; round++) {
                int flow = flowOf(round);
                if (flow > most) {
                    best = round;
                    most = flow;
                }
            }
            return best;
        }

        int greatestPace() {
            int best = 0;
            float most = paceOf(0);
            for (int round = 1; round < count; round++) {
                float pace = paceOf(round);
                if (pace > most) {
                    best = round;
                    most = pace;
                }
            }
            return best;
        }

        int leastKept() {
            int best = 0;
            float least = keptOf(0);
            for (int round = 1; round < count; round++) {
                float kept = keptOf(round);
                if (kept < least) {
                    best = round;
                    least = kept;
                }
            }
            return best;
        }

        int closedBy(int transfer, int i) {
            int seen = 0;
            for (int round = 0; round < count; round++) {
                if (lastOf(round) == transfer) {
                    if (seen == i) {
                        return round;
                    }
                    seen++;
                }
            }
            return NONE;
        }

        int closedBetween(int since, int till) {
            int sum = 0;
            for (int t = 0; t < book.transfers; t++) {
                if (book.time[t] >= since && book.time[t] <= till) {
                    sum += closes[t];
                }
            }
            return sum;
        }

        int alarmsBetween(int since, int till) {
            alarms.beginCall();
            int found = 0;
            for (int round = 0; round < count; round++) {
                int time = lastTime(round);
                if (time >= since && time <= till && alarms.callOnce(alarmOf[round])) {
                    found++;
                }
            }
            return found;
        }

        // More ROUNDS STAND only where one is closed: no other TIME can be the first of a peak.
        int peakTime() {
            int best = NONE;
            int time = NONE;
            for (int t = 0; t < book.transfers; t++) {
                int now = closedBetween(book.time[t] - book.bounds[WINDOW], book.time[t]);
                if (now > best) {
                    best = now;
                    time = book.time[t];
                }
            }
            return time;
        }

        private void tallyAlarm(int alarm) {
            for (int t = 0; t < MOST_TRANSFERS; t++) {
                tally[t] = 0;
            }
            for (int round = 0; round < count; round++) {
                int hops = alarmOf[round] == alarm ? lengthOf(round) : 0;
                for (int i = 0; i < hops; i++) {
                    tally[transferAt(round, i)]++;
                }
            }
        }

        int apartIn(int alarm) {
            tallyAlarm(alarm);
            int apart = 0;
            for (int round = 0; round < count; round++) {
                if (alarmOf[round] == alarm && isApart(round)) {
                    apart++;
                }
            }
            return apart;
        }

        private boolean isApart(int round) {
            int hops = lengthOf(round);
            for (int i = 0; i < hops; i++) {
                if (tally[transferAt(round, i)] > 1) {
                    return false;
                }
            }
            return true;
        }

        int hingeOf(int alarm) {
            if (!alarms.has(alarm)) {
                return NONE;
            }
            tallyAlarm(alarm);
            for (int t = 0; t < MOST_TRANSFERS; t++) {
                if (tally[t] == alarms.rounds[alarm]) {
                    return t;
                }
            }
            return NONE;
        }
    }

    /** The unlike RINGS, each found again by its code. */
    private static final class Alarms {
        private static final int HEADS = 64;
        private static final int MOST_ALARMS = 242792;

        int count;
        private final int[] heads = new int[HEADS];
        private int[] after = new int[16];
        private int[] code = new int[16];
        private int[] members = new int[16];
        int[] rounds = new int[16];
        int[] witness = new int[16];
        private int[] span = new int[16];
        int[] flow = new int[16];
        private int[] called = new int[16];
        private int call;

        void wipe() {
            count = 0;
            for (int i = 0; i < HEADS; i++) {
                heads[i] = NONE;
            }
        }

        boolean has(int alarm) {
            return alarm >= 0 && alarm < count;
        }

        int note(int ring, int round, int time, int much) {
            int alarm = find(ring);
            if (alarm == NONE) {
                alarm = begin(ring);
            }
            if (alarm == NONE) {
                return NONE;
            }
            if (rounds[alarm] == 0 || time < span[alarm]) {
                witness[alarm] = round;
                span[alarm] = time;
            }
            rounds[alarm]++;
            flow[alarm] += much;
            return alarm;
        }

        private static int headOf(int ring) {
            return (ring ^ ring >>> 6 ^ ring >>> 12) & HEADS - 1;
        }

        private int find(int ring) {
            int alarm = heads[headOf(ring)];
            for (int turn = 0; turn < count && has(alarm); turn++) {
                if (code[alarm] == ring) {
                    return alarm;
                }
                alarm = after[alarm];
            }
            return NONE;
        }

        private int begin(int ring) {
            if (count >= code.length && !widen()) {
                return NONE;
            }
            int alarm = count;
            count++;
            code[alarm] = ring;
            after[alarm] = heads[headOf(ring)];
            heads[headOf(ring)] = alarm;
            members[alarm] = membersOf(ring);
            rounds[alarm] = 0;
            flow[alarm] = 0;
            called[alarm] = 0;
            return alarm;
        }

        private boolean widen() {
            if (code.length >= MOST_ALARMS) {
                return false;
            }
            int wide = code.length * 2;
            after = Arrays.copyOf(after, wide);
            code = Arrays.copyOf(code, wide);
            members = Arrays.copyOf(members, wide);
            rounds = Arrays.copyOf(rounds, wide);
            witness = Arrays.copyOf(witness, wide);
            span = Arrays.copyOf(span, wide);
            flow = Arrays.copyOf(flow, wide);
            called = Arrays.copyOf(called, wide);
            return true;
        }

        private static int membersOf(int ring) {
            int set = 0;
            for (int i = 0; i < MOST_HOPS; i++) {
                int account = (ring >>> 4 * i & 15) - 1;
                set |= account == NONE ? 0 : 1 << account;
            }
            return set;
        }

        // An ALARM's rounds are gone through in no order of ALARMS: each is counted at its first call.
        void beginCall() {
            call++;
        }

        boolean callOnce(int alarm) {
            if (!has(alarm) || called[alarm] == call) {
                return false;
            }
            called[alarm] = call;
            return true;
        }

        int accountOf(int alarm, int i) {
            if (!has(alarm) || i < 0 || i >= MOST_HOPS) {
                return NONE;
            }
            return (code[alarm] >>> 4 * i & 15) - 1;
        }

        int sizeOf(int alarm) {
            return has(alarm) ? Integer.bitCount(members[alarm]) : 0;
        }

        boolean allOfTwo() {
            for (int alarm = 0; alarm < count; alarm++) {
                if (sizeOf(alarm) != 2) {
                    return false;
                }
            }
            return count > 0;
        }

        int countWith(int account) {
            int found = 0;
            for (int alarm = 0; alarm < count; alarm++) {
                found += members[alarm] >>> account & 1;
            }
            return found;
        }

        int roundsWith(int account) {
            int sum = 0;
            for (int alarm = 0; alarm < count; alarm++) {
                sum += (members[alarm] >>> account & 1) != 0 ? rounds[alarm] : 0;
            }
            return sum;
        }

        int roundsWithout(int set) {
            int sum = 0;
            for (int alarm = 0; alarm < count; alarm++) {
                sum += (members[alarm] & set) == 0 ? rounds[alarm] : 0;
            }
            return sum;
        }

        // Each turn but the last brings an ACCOUNT in: there are no more turns than these.
        private int clusterSet(int alarm) {
            int set = has(alarm) ? members[alarm] : 0;
            int before = 0;
            for (int turn = 0; turn <= MOST_ACCOUNTS && set != before; turn++) {
                before = set;
                for (int other = 0; other < count; other++) {
                    set |= (members[other] & set) != 0 ? members[other] : 0;
                }
            }
            return set;
        }

        int clusterOf(int alarm) {
            int set = clusterSet(alarm);
            for (int other = 0; other < count; other++) {
                if ((members[other] & set) != 0) {
                    return other;
                }
            }
            return NONE;
        }

        int clusters() {
            int found = 0;
            int done = 0;
            for (int alarm = 0; alarm < count; alarm++) {
                if ((members[alarm] & done) == 0) {
                    done |= clusterSet(alarm);
                    found++;
                }
            }
            return found;
        }

        private boolean allMeet(int set) {
            for (int alarm = 0; alarm < count; alarm++) {
                if ((members[alarm] & set) == 0) {
                    return false;
                }
            }
            return true;
        }

        int fewestInAll(int accounts) {
            int all = (1 << Math.min(accounts, MOST_ACCOUNTS)) - 1;
            int best = all;
            for (int set = 0; set < all; set++) {
                if (Integer.bitCount(set) < Integer.bitCount(best) && allMeet(set)) {
                    best = set;
                }
            }
            return best;
        }
    }

    /** All WAYS by which one comes from an ACCOUNT, from a TIME on. */
    private static final class Ways {
        private static final int MOST_SETS = 1 << MOST_ACCOUNTS;

        private final int[] seen = new int[MOST_SETS];
        private final int[] next = new int[MOST_TRANSFERS];
        private final int[] path = new int[MOST_ACCOUNTS];
        private final int[] best = new int[MOST_ACCOUNTS];
        private final Book book = new Book();
        private int target;
        int lastTime;
        int count;
        int most;
        int reached;
        int longest;

        void walk(Book where, int from, int to, int time) {
            book.copy(where);
            target = to;
            lastTime = MOST_TIME + 1;
            count = 0;
            most = 0;
            reached = 0;
            longest = 0;
            for (int set = 0; set < MOST_SETS && set < 1 << book.accounts; set++) {
                seen[set] = 0;
            }
            for (int t = 0; t < book.transfers; t++) {
                next[t] = book.stepsFrom(t);
            }
            for (int t = 0; t < book.transfers; t++) {
                if (book.from[t] == from && book.time[t] >= time) {
                    go(this, t, 1 << from | 1 << book.to[t], 0);
                }
            }
        }

        // How a WAY can go on depends on its last TRANSFER and its ACCOUNTS alone, and of all WAYS with
        // these (they have as many TRANSFERS) the first one by numbers comes first: others need no look.
        private static void go(Ways ways, int t, int set, int depth) {
            Book book = ways.book;
            if (depth < 0 || depth >= MOST_ACCOUNTS || set < 0 || set >= MOST_SETS) {
                return;
            }
            if ((ways.seen[set] >>> t & 1) != 0) {
                return;
            }
            ways.seen[set] |= 1 << t;
            ways.path[depth] = t;
            ways.arrive(t, depth + 1);
            int rest = ways.next[t];
            for (int turn = 0; turn < MOST_TRANSFERS && rest != 0; turn++) {
                int other = lowestBit(rest);
                rest &= rest - 1;
                if ((set >>> book.to[other] & 1) == 0) {
                    go(ways, other, set | 1 << book.to[other], depth + 1);
                }
            }
        }

        private void arrive(int t, int transfers) {
            reached |= 1 << book.to[t];
            longest = Math.max(longest, transfers);
            if (book.to[t] != target) {
                return;
            }
            most = Math.max(most, book.amount[t]);
            if (book.time[t] < lastTime || book.time[t] == lastTime && transfers < count) {
                lastTime = book.time[t];
                count = transfers;
                System.arraycopy(path, 0, best, 0, MOST_ACCOUNTS);
            }
        }

        int transferAt(int i) {
            return i >= 0 && i < count && i < MOST_ACCOUNTS ? best[i] : NONE;
        }
    }

    /** Which ACCOUNTS hang together at a TIME. */
    private static final class Parts {
        private final int[] reached = new int[MOST_ACCOUNTS];
        private int accounts;

        void lay(Book book, int time, int breadth) {
            accounts = Math.min(book.accounts, MOST_ACCOUNTS);
            for (int account = 0; account < accounts; account++) {
                reached[account] = 1 << account;
            }
            for (int t = 0; t < book.transfers; t++) {
                int age = time - book.time[t];
                if (age >= 0 && age < breadth && book.hasAccount(book.from[t])) {
                    reached[book.from[t]] |= 1 << book.to[t];
                }
            }
            for (int through = 0; through < accounts; through++) {
                for (int account = 0; account < accounts; account++) {
                    if ((reached[account] >>> through & 1) != 0) {
                        reached[account] |= reached[through];
                    }
                }
            }
        }

        private boolean together(int one, int other) {
            return (reached[one] >>> other & 1) != 0 && (reached[other] >>> one & 1) != 0;
        }

        int leastOf(int account) {
            for (int other = 0; other < account && account < accounts; other++) {
                if (together(account, other)) {
                    return other;
                }
            }
            return account;
        }

        int sizeOf(int account) {
            int size = 0;
            for (int other = 0; other < accounts && account < accounts; other++) {
                size += together(account, other) ? 1 : 0;
            }
            return size;
        }

        int countFrom(int least) {
            int found = 0;
            for (int account = 0; account < accounts; account++) {
                if (leastOf(account) == account && sizeOf(account) >= least) {
                    found++;
                }
            }
            return found;
        }

        int greatest() {
            int best = 0;
            for (int account = 1; account < accounts; account++) {
                if (sizeOf(account) > sizeOf(best)) {
                    best = account;
                }
            }
            return best;
        }
    }
}
