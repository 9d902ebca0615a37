import java.util.ArrayDeque;
import java.util.ArrayList;
import java.util.Arrays;
import java.util.Comparator;
import java.util.Deque;
import java.util.LinkedHashMap;
import java.util.List;
import java.util.Map;
import java.util.TreeSet;
import java.util.function.Predicate;
import java.util.regex.Matcher;
import java.util.regex.Pattern;

/** The document once more, in its own words and by trying everything: what RoundTrips is compared with. */
final class Naive {
    record Pay(int from, int to, int amount, int time) { }

    static final class Fault extends RuntimeException {
        final int kind;
        final int place;

        Fault(int kind, int place) {
            this.kind = kind;
            this.place = place;
        }
    }

    static final class State {
        int accounts;
        TreeSet<Integer> trusted = new TreeSet<>();
        List<Pay> pays = new ArrayList<>();
        int[] bounds = {100, 4, 10, 0};

        State copy() {
            State s = new State();
            s.accounts = accounts;
            s.trusted.addAll(trusted);
            s.pays.addAll(pays);
            s.bounds = bounds.clone();
            return s;
        }

        int put(Pay p) {
            int at = 0;
            while (at < pays.size() && pays.get(at).time() <= p.time()) {
                at++;
            }
            pays.add(at, p);
            return at;
        }
    }

    State s = new State();
    int status;
    StringBuilder tape = new StringBuilder();
    int faultKind = -1;
    int faultPlace = -1;
    Deque<State> past = new ArrayDeque<>();
    Deque<State> marks = new ArrayDeque<>();

    // ---- the definitions

    boolean ratio(State s, long one, long other) {
        return 100 * other >= (100 - s.bounds[2]) * one && 100 * other <= (100 + s.bounds[3]) * one;
    }

    boolean isWay(State s, List<Integer> way) {
        TreeSet<Integer> froms = new TreeSet<>();
        for (int i = 0; i < way.size(); i++) {
            Pay p = s.pays.get(way.get(i));
            froms.add(p.from());
            if (i > 0) {
                Pay before = s.pays.get(way.get(i - 1));
                if (p.from() != before.to() || p.time() <= before.time() || !ratio(s, before.amount(), p.amount())) {
                    return false;
                }
            }
        }
        return froms.size() == way.size();
    }

    boolean isRound(State s, List<Integer> way) {
        if (way.size() < 2 || way.size() > s.bounds[1] || !isWay(s, way)) {
            return false;
        }
        Pay first = s.pays.get(way.get(0));
        Pay last = s.pays.get(way.get(way.size() - 1));
        if (last.to() != first.from() || last.time() - first.time() > s.bounds[0]) {
            return false;
        }
        for (int i = 0; i < way.size(); i++) {
            Pay p = s.pays.get(way.get(i));
            if (s.trusted.contains(p.from()) || i < way.size() - 1 && p.to() == first.from()) {
                return false;
            }
        }
        return true;
    }

    static final Comparator<List<Integer>> BY_NUMBERS = (a, b) -> {
        for (int i = 0; i < a.size() && i < b.size(); i++) {
            if (!a.get(i).equals(b.get(i))) {
                return a.get(i) - b.get(i);
            }
        }
        return a.size() - b.size();
    };

    private void choose(State s, int next, List<Integer> so, List<List<Integer>> out) {
        if (isRound(s, so)) {
            out.add(new ArrayList<>(so));
        }
        if (so.size() == 5 || !isWay(s, so)) {
            return;
        }
        for (int t = next; t < s.pays.size(); t++) {
            so.add(t);
            choose(s, t + 1, so, out);
            so.remove(so.size() - 1);
        }
    }

    private Object latestKey;
    private List<List<Integer>> latestRounds;

    List<List<Integer>> rounds(State s) {
        Object key = List.of(new ArrayList<>(s.pays), new TreeSet<>(s.trusted), Arrays.toString(s.bounds));
        if (!key.equals(latestKey)) {
            latestRounds = new ArrayList<>();
            choose(s, 0, new ArrayList<>(), latestRounds);
            latestRounds.sort(BY_NUMBERS);
            latestKey = key;
        }
        return latestRounds;
    }

    List<Integer> ringOf(State s, List<Integer> round) {
        List<Integer> ring = new ArrayList<>();
        for (int t : round) {
            ring.add(s.pays.get(t).from());
        }
        int least = ring.stream().min(Integer::compare).get();
        while (ring.get(0) != least) {
            ring.add(ring.remove(0));
        }
        return ring;
    }

    Map<List<Integer>, List<Integer>> alarms(State s, List<List<Integer>> rounds) {
        Map<List<Integer>, List<Integer>> out = new LinkedHashMap<>();
        for (int r = 0; r < rounds.size(); r++) {
            out.computeIfAbsent(ringOf(s, rounds.get(r)), k -> new ArrayList<>()).add(r);
        }
        return out;
    }

    private void ways(State s, int from, int time, List<Integer> so, List<List<Integer>> out) {
        for (int t = 0; t < s.pays.size(); t++) {
            Pay p = s.pays.get(t);
            if (so.isEmpty() && (p.from() != from || p.time() < time)) {
                continue;
            }
            so.add(t);
            TreeSet<Integer> all = new TreeSet<>();
            for (int u : so) {
                all.add(s.pays.get(u).from());
            }
            all.add(p.to());
            if (isWay(s, so) && all.size() == so.size() + 1) {
                out.add(new ArrayList<>(so));
                ways(s, from, time, so, out);
            }
            so.remove(so.size() - 1);
        }
    }

    List<List<Integer>> ways(int from, int time) {
        List<List<Integer>> out = new ArrayList<>();
        ways(s, from, time, new ArrayList<>(), out);
        return out;
    }

    // ---- the text

    static final Pattern TOKEN = Pattern.compile("[ \n]*([a-z]+|[0-9]+|[>;]|[^ \n]|\\z)", Pattern.DOTALL);
    static final List<String> WORDS = List.of("pay", "at", "trust", "window", "longest", "loss", "gain");
    static final List<String> BOUND_WORDS = List.of("window", "longest", "loss", "gain");

    static final class Text {
        final String text;
        int at;
        String token;
        int place;

        Text(String text) {
            this.text = text;
            go();
        }

        void go() {
            Matcher m = TOKEN.matcher(text);
            if (!m.find(at)) {
                throw new IllegalStateException();
            }
            token = m.group(1);
            place = m.start(1);
            at = m.end();
            if (token.matches("[0-9]{5,}") || !token.matches("[a-z]+|[0-9]+|[>;]|")) {
                pending = new Fault(1, place);
            }
        }

        Fault pending;

        String take(String form) {
            if (pending != null) {
                throw pending;
            }
            if (!token.matches(form)) {
                throw new Fault(2, place);
            }
            return token;
        }

        String name() {
            String n = take("[a-z]{1,6}");
            if (WORDS.contains(n)) {
                throw new Fault(2, place);
            }
            return n;
        }

        void sign(String form) {
            take(form);
            go();
        }
    }

    int known(Text t, List<String> names) {
        int at = names.indexOf(t.name());
        if (at < 0) {
            throw new Fault(3, t.place);
        }
        return at;
    }

    int number(Text t, int least, int most) {
        int n = Integer.parseInt(t.take("[0-9]+"));
        if (n < least || n > most) {
            throw new Fault(4, t.place);
        }
        t.go();
        return n;
    }

    State read(String text) {
        State b = new State();
        List<String> names = new ArrayList<>();
        TreeSet<String> told = new TreeSet<>();
        Text t = new Text(text);
        while (t.pending != null || !t.token.isEmpty()) {
            t.take("[a-z]+");
            if (t.token.equals("pay")) {
                if (b.pays.size() == 32) {
                    throw new Fault(6, t.place);
                }
                t.go();
                int from = known(t, names);
                t.go();
                t.sign(">");
                int to = known(t, names);
                if (to == from) {
                    throw new Fault(4, t.place);
                }
                t.go();
                int amount = number(t, 1, 9999);
                t.sign("at");
                int time = number(t, 0, 9999);
                t.sign(";");
                b.put(new Pay(from, to, amount, time));
            } else if (t.token.equals("trust")) {
                t.go();
                if (!b.trusted.add(known(t, names))) {
                    throw new Fault(5, t.place);
                }
                t.go();
                t.sign(";");
            } else if (BOUND_WORDS.contains(t.token)) {
                int which = BOUND_WORDS.indexOf(t.token);
                if (!told.add(t.token)) {
                    throw new Fault(5, t.place);
                }
                t.go();
                b.bounds[which] = number(t, which == 1 ? 2 : 0, new int[] {9999, 5, 90, 90}[which]);
                t.sign(";");
            } else {
                do {
                    String name = t.name();
                    if (names.contains(name)) {
                        throw new Fault(3, t.place);
                    }
                    if (names.size() == 12) {
                        throw new Fault(6, t.place);
                    }
                    names.add(name);
                    t.go();
                } while (t.pending == null && t.token.matches("[a-z]+"));
                t.sign(";");
            }
        }
        b.accounts = names.size();
        return b;
    }

    // ---- the calls

    int no(int why) {
        status = why;
        return -1;
    }

    int yes(int value) {
        status = 0;
        return value;
    }

    /** The first STATUS of these that holds, 0 if none does. */
    boolean bad(int... pairs) {
        for (int i = 0; i < pairs.length; i += 2) {
            if (pairs[i + 1] != 0) {
                status = pairs[i];
                return true;
            }
        }
        return false;
    }

    static int is(boolean b) {
        return b ? 1 : 0;
    }

    int account0(int a) {
        return is(a < 0 || a >= s.accounts);
    }

    static int out(int v, int least, int most) {
        return is(v < least || v > most);
    }

    static int time0(int t) {
        return out(t, 0, 9999);
    }

    void act() {
        past.addLast(s.copy());
        if (past.size() > 10) {
            past.removeFirst();
        }
    }

    public int status() {
        return status;
    }

    public int feed(int a, int b, int c, int d, int e) {
        if (tape.length() > 780) {
            return -1;
        }
        for (int v : new int[] {a, b, c, d, e}) {
            for (int i = 3; i >= 0; i--) {
                tape.append((char) (v >> 8 * i & 255));
            }
        }
        return tape.length();
    }

    public int load(int n) {
        if (n < 0 || n > tape.length()) {
            return no(1);
        }
        String text = tape.substring(0, n);
        tape.setLength(0);
        try {
            State b = read(text);
            act();
            s = b;
            faultKind = 0;
            faultPlace = -1;
            return yes(b.accounts);
        } catch (Fault f) {
            faultKind = f.kind;
            faultPlace = f.place;
            return no(9);
        }
    }

    public int fault(int what) {
        return what == 0 ? faultKind : what == 1 ? faultPlace : -1;
    }

    static int set(Iterable<Integer> all) {
        int set = 0;
        for (int a : all) {
            set |= 1 << a;
        }
        return set;
    }

    int[] clusters(List<List<Integer>> rings) {
        int[] label = new int[rings.size()];
        Arrays.setAll(label, i -> i);
        for (int k = 0; k < rings.size(); k++) {
            for (int i = 0; i < rings.size(); i++) {
                for (int j = 0; j < rings.size(); j++) {
                    if ((set(rings.get(i)) & set(rings.get(j))) != 0) {
                        label[i] = label[j] = Math.min(label[i], label[j]);
                    }
                }
            }
        }
        return label;
    }

    int[] net() {
        int[] left = new int[s.pays.size() + 1];
        for (int t = 0; t < s.pays.size(); t++) {
            left[t] = s.pays.get(t).amount();
        }
        for (List<Integer> r : rounds(s)) {
            int least = r.stream().mapToInt(t -> left[t]).min().getAsInt();
            r.forEach(t -> left[t] -= least);
            left[s.pays.size()] += least;
        }
        return left;
    }

    List<List<Integer>> rings() {
        return new ArrayList<>(alarms(s, rounds(s)).keySet());
    }

    public int many(int what) {
        if (bad(1, out(what, 0, 10))) {
            return -1;
        }
        return yes(switch (what) {
            case 0 -> s.accounts;
            case 1 -> s.pays.size();
            case 2 -> set(s.trusted);
            case 3 -> rounds(s).size();
            case 4 -> rings().size();
            case 5 -> past.size();
            case 6 -> marks.size();
            case 7 -> s.pays.stream().mapToInt(Pay::amount).sum();
            case 8 -> is(!rings().isEmpty() && rings().stream().allMatch(r -> r.size() == 2));
            case 9 -> (int) Arrays.stream(clusters(rings())).distinct().count();
            default -> net()[s.pays.size()];
        });
    }

    public int bounds(int which) {
        return bad(1, out(which, 0, 3)) ? -1 : yes(s.bounds[which]);
    }

    int countRounds(Predicate<List<Integer>> p) {
        return (int) rounds(s).stream().filter(p).count();
    }

    static int last(List<Integer> r) {
        return r.get(r.size() - 1);
    }

    public int transfer(int t, int what) {
        if (bad(1, out(what, 0, 6), 1, is(t < 0), 5, is(t >= s.pays.size()))) {
            return -1;
        }
        Pay p = s.pays.get(t);
        State w = s.copy();
        w.pays.remove(t);
        return yes(switch (what) {
            case 0 -> p.from();
            case 1 -> p.to();
            case 2 -> p.time();
            case 3 -> p.amount();
            case 4 -> countRounds(r -> r.contains(t));
            case 5 -> countRounds(r -> last(r) == t);
            default -> rounds(w).size();
        });
    }

    public int account(int a, int what) {
        if (bad(1, out(what, 0, 7), 2, account0(a))) {
            return -1;
        }
        int have = 0;
        int least = 0;
        for (Pay p : s.pays) {
            have += p.to() == a ? p.amount() : p.from() == a ? -p.amount() : 0;
            least = Math.min(least, have);
        }
        return yes(switch (what) {
            case 0 -> (int) s.pays.stream().filter(p -> p.from() == a).count();
            case 1 -> (int) s.pays.stream().filter(p -> p.to() == a).count();
            case 2 -> s.pays.stream().filter(p -> p.from() == a).mapToInt(Pay::amount).sum();
            case 3 -> s.pays.stream().filter(p -> p.to() == a).mapToInt(Pay::amount).sum();
            case 4 -> is(s.trusted.contains(a));
            case 5 -> inRounds(a);
            case 6 -> (int) rings().stream().filter(r -> r.contains(a)).count();
            default -> least;
        });
    }

    int inRounds(int a) {
        return countRounds(r -> ringOf(s, r).contains(a));
    }

    public int add() {
        if (bad(3, is(s.accounts == 12))) {
            return -1;
        }
        act();
        return yes(s.accounts++);
    }

    boolean badPay(int from, int to, int amount, int time) {
        return bad(1, out(amount, 1, 9999), 1, time0(time), 2, account0(from), 2, account0(to),
                3, is(s.pays.size() == 32), 6, is(from == to));
    }

    public int pay(int from, int to, int amount, int time) {
        if (badPay(from, to, amount, time)) {
            return -1;
        }
        act();
        return yes(s.put(new Pay(from, to, amount, time)));
    }

    public int strike(int t) {
        if (bad(1, is(t < 0), 5, is(t >= s.pays.size()))) {
            return -1;
        }
        act();
        s.pays.remove(t);
        return yes(s.pays.size());
    }

    public boolean trust(int a, boolean trusted) {
        if (bad(2, account0(a), 4, is(s.trusted.contains(a) == trusted))) {
            return false;
        }
        act();
        if (trusted) {
            s.trusted.add(a);
        } else {
            s.trusted.remove(a);
        }
        status = 0;
        return true;
    }

    public int bound(int which, int much) {
        if (bad(1, out(which, 0, 3))) {
            return -1;
        }
        int[][] can = {{0, 9999}, {2, 5}, {0, 90}, {0, 90}};
        if (bad(1, out(much, can[which][0], can[which][1]), 4, is(s.bounds[which] == much))) {
            return -1;
        }
        act();
        int was = s.bounds[which];
        s.bounds[which] = much;
        return yes(was);
    }

    public int join(int a, int b) {
        if (bad(2, account0(a), 2, account0(b), 6, is(a == b))) {
            return -1;
        }
        act();
        State n = new State();
        n.bounds = s.bounds;
        int[] now = new int[s.accounts];
        int next = 0;
        for (int i = 0; i < s.accounts; i++) {
            if (i != Math.max(a, b)) {
                now[i] = next++;
                if (s.trusted.contains(i)) {
                    n.trusted.add(now[i]);
                }
            }
        }
        now[Math.max(a, b)] = now[Math.min(a, b)];
        n.accounts = next;
        for (Pay p : s.pays) {
            if (now[p.from()] != now[p.to()]) {
                n.pays.add(new Pay(now[p.from()], now[p.to()], p.amount(), p.time()));
            }
        }
        int gone = s.pays.size() - n.pays.size();
        s = n;
        return yes(gone);
    }

    public int undo() {
        if (bad(5, is(past.isEmpty()))) {
            return -1;
        }
        s = past.removeLast();
        return yes(past.size());
    }

    public int mark() {
        if (bad(3, is(marks.size() == 3))) {
            return -1;
        }
        marks.addLast(s.copy());
        return yes(marks.size());
    }

    public int back() {
        if (bad(5, is(marks.isEmpty()))) {
            return -1;
        }
        s = marks.removeLast();
        return yes(marks.size());
    }

    int span(List<Integer> r) {
        return s.pays.get(last(r)).time() - s.pays.get(r.get(0)).time();
    }

    int flow(List<Integer> r) {
        return r.stream().mapToInt(t -> s.pays.get(t).amount()).min().getAsInt();
    }

    float kept(List<Integer> r) {
        return (float) s.pays.get(last(r)).amount() / (float) s.pays.get(r.get(0)).amount();
    }

    float pace(List<Integer> r) {
        return (float) r.stream().mapToInt(t -> s.pays.get(t).amount()).sum() / ((float) span(r) + 1f);
    }

    public int round(int r, int what) {
        if (bad(1, out(what, 0, 6), 1, is(r < 0), 5, is(r >= rounds(s).size()))) {
            return -1;
        }
        List<Integer> round = rounds(s).get(r);
        return yes(switch (what) {
            case 0 -> round.size();
            case 1 -> s.pays.get(round.get(0)).time();
            case 2 -> s.pays.get(last(round)).time();
            case 3 -> flow(round);
            case 4 -> rings().indexOf(ringOf(s, round));
            case 5 -> Float.floatToIntBits(kept(round));
            default -> Float.floatToIntBits(pace(round));
        });
    }

    int pick(List<Integer> list, int i) {
        return bad(5, is(i >= list.size())) ? -1 : yes(list.get(i));
    }

    public int hop(int r, int i) {
        if (bad(1, is(r < 0), 1, is(i < 0), 5, is(r >= rounds(s).size()))) {
            return -1;
        }
        return pick(rounds(s).get(r), i);
    }

    List<List<Integer>> roundsOf(int a) {
        List<List<Integer>> all = rounds(s);
        List<Integer> numbers = new ArrayList<>(alarms(s, all).values()).get(a);
        return numbers.stream().map(all::get).toList();
    }

    public int alarm(int a, int what) {
        if (bad(1, out(what, 0, 4), 1, is(a < 0), 5, is(a >= rings().size()))) {
            return -1;
        }
        List<List<Integer>> mine = roundsOf(a);
        int witness = 0;
        for (int i = 0; i < mine.size(); i++) {
            witness = span(mine.get(i)) < span(mine.get(witness)) ? i : witness;
        }
        int apart = 0;
        for (List<Integer> r : mine) {
            apart += is(mine.stream().noneMatch(o -> o != r && o.stream().anyMatch(r::contains)));
        }
        return yes(switch (what) {
            case 0 -> mine.size();
            case 1 -> mine.get(0).size();
            case 2 -> new ArrayList<>(alarms(s, rounds(s)).values()).get(a).get(witness);
            case 3 -> mine.stream().mapToInt(this::flow).sum();
            default -> apart;
        });
    }

    public int ring(int a, int i) {
        if (bad(1, is(a < 0), 1, is(i < 0), 5, is(a >= rings().size()))) {
            return -1;
        }
        return pick(rings().get(a), i);
    }

    public int closed(int t, int i) {
        if (bad(1, is(t < 0), 1, is(i < 0), 5, is(t >= s.pays.size()))) {
            return -1;
        }
        List<Integer> numbers = new ArrayList<>();
        List<List<Integer>> all = rounds(s);
        for (int r = 0; r < all.size(); r++) {
            if (last(all.get(r)) == t) {
                numbers.add(r);
            }
        }
        return pick(numbers, i);
    }

    public int would(int from, int to, int amount, int time) {
        if (badPay(from, to, amount, time)) {
            return -1;
        }
        State was = s;
        s = s.copy();
        int t = s.put(new Pay(from, to, amount, time));
        int n = countRounds(r -> last(r) == t);
        s = was;
        return yes(n);
    }

    public int top(int what) {
        List<List<Integer>> all = rounds(s);
        if (bad(1, out(what, 0, 3), 5, is(all.isEmpty()))) {
            return -1;
        }
        int best = 0;
        for (int i = 1; i < (what == 0 ? s.accounts : all.size()); i++) {
            boolean better = switch (what) {
                case 0 -> inRounds(i) > inRounds(best);
                case 1 -> flow(all.get(i)) > flow(all.get(best));
                case 2 -> pace(all.get(i)) > pace(all.get(best));
                default -> kept(all.get(i)) < kept(all.get(best));
            };
            best = better ? i : best;
        }
        return yes(best);
    }

    public int left(int t) {
        return bad(1, is(t < 0), 5, is(t >= s.pays.size())) ? -1 : yes(net()[t]);
    }

    public int cluster(int a) {
        return bad(1, is(a < 0), 5, is(a >= rings().size())) ? -1 : yes(clusters(rings())[a]);
    }

    public int hinge(int a) {
        if (bad(1, is(a < 0), 5, is(a >= rings().size()))) {
            return -1;
        }
        for (int t = 0; t < s.pays.size(); t++) {
            int u = t;
            if (roundsOf(a).stream().allMatch(r -> r.contains(u))) {
                return yes(t);
            }
        }
        return no(5);
    }

    List<List<Integer>> standingAt(int time) {
        return rounds(s).stream().filter(r -> {
            int end = s.pays.get(last(r)).time();
            return end <= time && time <= end + s.bounds[0];
        }).toList();
    }

    public int standing(int time, int what) {
        if (bad(1, time0(time), 1, out(what, 0, 1))) {
            return -1;
        }
        List<List<Integer>> now = standingAt(time);
        return yes(what == 0 ? now.size() : (int) now.stream().map(r -> ringOf(s, r)).distinct().count());
    }

    public int peak(int what) {
        List<List<Integer>> all = rounds(s);
        if (bad(1, out(what, 0, 1), 5, is(all.isEmpty()))) {
            return -1;
        }
        int best = -1;
        int at = -1;
        for (int time = 0; time <= 9999; time++) {
            int now = 0;
            for (List<Integer> r : all) {
                int end = s.pays.get(last(r)).time();
                now += is(end <= time && time <= end + s.bounds[0]);
            }
            if (now > best) {
                best = now;
                at = time;
            }
        }
        return yes(what == 0 ? best : at);
    }

    float heatOf(int a) {
        long count = s.pays.stream().filter(p -> p.from() == a || p.to() == a).count();
        return (float) inRounds(a) / ((float) count + 1f);
    }

    public int ranked(int i) {
        if (bad(1, is(i < 0), 5, is(i >= s.accounts))) {
            return -1;
        }
        List<Integer> all = new ArrayList<>();
        for (int a = 0; a < s.accounts; a++) {
            all.add(a);
        }
        all.sort(Comparator.comparing(a -> -heatOf(a)));
        return yes(all.get(i));
    }

    boolean badWay(int from, int to, int time) {
        return bad(1, time0(time), 2, account0(from), 2, account0(to), 6, is(from == to));
    }

    List<List<Integer>> waysTo(int from, int to, int time) {
        return ways(from, time).stream().filter(w -> s.pays.get(last(w)).to() == to).toList();
    }

    List<Integer> soonestWay(int from, int to, int time) {
        return waysTo(from, to, time).stream().min(Comparator
                .comparing((List<Integer> w) -> s.pays.get(last(w)).time())
                .thenComparing(List::size).thenComparing(BY_NUMBERS)).orElse(null);
    }

    public int soonest(int from, int to, int time, int what) {
        if (bad(1, out(what, 0, 1)) || badWay(from, to, time)) {
            return -1;
        }
        List<Integer> way = soonestWay(from, to, time);
        if (bad(5, is(way == null))) {
            return -1;
        }
        return yes(what == 0 ? s.pays.get(last(way)).time() : way.size());
    }

    public int step(int from, int to, int time, int i) {
        if (bad(1, is(i < 0)) || badWay(from, to, time)) {
            return -1;
        }
        List<Integer> way = soonestWay(from, to, time);
        return bad(5, is(way == null)) ? -1 : pick(way, i);
    }

    public int most(int from, int to, int time) {
        if (badWay(from, to, time)) {
            return -1;
        }
        int most = waysTo(from, to, time).stream().mapToInt(w -> s.pays.get(last(w)).amount()).max().orElse(-1);
        return most < 0 ? no(5) : yes(most);
    }

    public int reach(int from, int time) {
        if (bad(1, time0(time), 2, account0(from))) {
            return -1;
        }
        return yes(set(ways(from, time).stream().map(w -> s.pays.get(last(w)).to()).toList()));
    }

    public int chain(int from, int time) {
        if (bad(1, time0(time), 2, account0(from))) {
            return -1;
        }
        return yes(ways(from, time).stream().mapToInt(List::size).max().orElse(0));
    }

    boolean comes(int from, int to, int time, int breadth) {
        TreeSet<Integer> been = new TreeSet<>(List.of(from));
        for (int turn = 0; turn < 12; turn++) {
            for (Pay p : s.pays) {
                if (p.time() <= time && p.time() > time - breadth && been.contains(p.from())) {
                    been.add(p.to());
                }
            }
        }
        return been.contains(to);
    }

    int partOf(int a, int time, int breadth) {
        int b = 0;
        while (!(comes(a, b, time, breadth) && comes(b, a, time, breadth))) {
            b++;
        }
        return b;
    }

    public int part(int a, int time, int breadth) {
        return bad(1, time0(time), 1, time0(breadth), 2, account0(a)) ? -1 : yes(partOf(a, time, breadth));
    }

    public int parts(int time, int breadth, int what) {
        if (bad(1, time0(time), 1, time0(breadth), 1, out(what, 0, 3))) {
            return -1;
        }
        int[] sizes = new int[13];
        for (int a = 0; a < s.accounts; a++) {
            sizes[partOf(a, time, breadth)]++;
        }
        int best = 0;
        for (int a = 0; a < 12; a++) {
            best = sizes[a] > sizes[best] ? a : best;
        }
        return yes(switch (what) {
            case 0 -> (int) Arrays.stream(sizes).filter(n -> n > 0).count();
            case 1 -> (int) Arrays.stream(sizes).filter(n -> n > 1).count();
            case 2 -> sizes[best];
            default -> best;
        });
    }

    int roundsWithout(int set) {
        return countRounds(r -> (set(ringOf(s, r)) & set) == 0);
    }

    public int freeze() {
        List<Integer> sets = rounds(s).stream().map(r -> set(ringOf(s, r))).toList();
        int best = (1 << s.accounts) - 1;
        for (int set = (1 << s.accounts) - 1; set >= 0; set--) {
            int now = set;
            if (Integer.bitCount(set) <= Integer.bitCount(best) && sets.stream().allMatch(m -> (m & now) != 0)) {
                best = set;
            }
        }
        return yes(best);
    }

    public int without(int set) {
        return bad(1, is(set < 0), 7, is(set >= 1 << s.accounts)) ? -1 : yes(roundsWithout(set));
    }

    public int heat(int a) {
        return bad(2, account0(a)) ? -1 : yes(Float.floatToIntBits(heatOf(a)));
    }

    List<Pay> funnelOf(Pay t, int breadth, boolean scatter) {
        return s.pays.stream().filter(p -> scatter
                ? p.from() == t.to() && p.time() > t.time() && p.time() <= t.time() + breadth
                : p.to() == t.from() && p.time() < t.time() && p.time() >= t.time() - breadth).toList();
    }

    int funnel(Pay t, int breadth, int what) {
        List<Pay> by = funnelOf(t, breadth, what > 2);
        int sum = by.stream().mapToInt(Pay::amount).sum();
        return switch (what % 3) {
            case 0 -> by.size();
            case 1 -> sum;
            default -> is(by.size() > 1 && (what > 2 ? ratio(s, t.amount(), sum) : ratio(s, sum, t.amount())));
        };
    }

    public int funnel(int t, int breadth, int what) {
        if (bad(1, time0(breadth), 1, out(what, 0, 5), 1, is(t < 0), 5, is(t >= s.pays.size()))) {
            return -1;
        }
        return yes(funnel(s.pays.get(t), breadth, what));
    }

    public int funnels(int breadth, boolean scatter) {
        if (bad(1, time0(breadth))) {
            return -1;
        }
        return yes((int) s.pays.stream().filter(p -> funnel(p, breadth, scatter ? 5 : 2) == 1).count());
    }

    public int until(int time, int what) {
        if (bad(1, time0(time), 1, out(what, 0, 2))) {
            return -1;
        }
        State early = s.copy();
        early.pays.removeIf(p -> p.time() > time);
        return yes(switch (what) {
            case 0 -> rounds(early).size();
            case 1 -> alarms(early, rounds(early)).size();
            default -> early.pays.size();
        });
    }

    public int need(int which) {
        if (bad(1, is(which != 0 && which != 2 && which != 3))) {
            return -1;
        }
        State other = s.copy();
        int most = which == 0 ? s.pays.stream().mapToInt(Pay::time).max().orElse(0) : 90;
        for (int much = 0; much <= most; much++) {
            other.bounds[which] = much;
            if (!rounds(other).isEmpty()) {
                return yes(much);
            }
        }
        return no(5);
    }
}
