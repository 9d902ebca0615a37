/** Boundary cases of promises 1 to 18: the book, ACTS. */
public final class BookEdgesTest {
    private static final int MIN = Integer.MIN_VALUE;
    private static final int MAX = Integer.MAX_VALUE;
    private static final int BLANKS = 0x20202020;

    private BookEdgesTest() { }

    private static void refused(String name, int status, Edges.Call call) {
        Edges.refused(Edges::market, name, status, call);
    }

    private static int blanks(RoundTrips x) {
        return x.feed(BLANKS, BLANKS, BLANKS, BLANKS, BLANKS);
    }

    // ---- 1: a new object

    static void promise01_newObject() {
        RoundTrips x = new RoundTrips();
        Check.due("status()", x.status(), 0);
        Check.due("fault(0)", x.fault(0), -1);
        Check.due("fault(1)", x.fault(1), -1);
        for (int what = 0; what <= 10; what++) {
            Check.due(x, "many(" + what + ")", x.many(what), 0, 0);
        }
        Check.due("an empty tape", x.feed(0, 0, 0, 0, 0), 20);
    }

    static void promise01_nothingThere() {
        RoundTrips x = new RoundTrips();
        Check.refused(x, "no ACCOUNT 0", x.account(0, 0), 2);
        Check.refused(x, "no TRANSFER 0", x.transfer(0, 0), 5);
        Check.refused(x, "nothing can be undone", x.undo(), 5);
        Check.refused(x, "no MARKS", x.back(), 5);
        Check.refused(x, "an empty tape", x.load(1), 1);
        Check.due(x, "nothing of it", x.load(0), 0, 0);
    }

    static void promise01_oneObjectIsNotAnother() {
        RoundTrips x = Edges.market();
        RoundTrips y = new RoundTrips();
        Check.due("many(0)", y.many(0), 0);
        Check.due("many(3)", x.many(3), 3);
        y.add();
        y.strike(0);
        Check.due("x.status()", x.status(), 0);
        Check.due("x.many(0)", x.many(0), 4);
        Edges.same("of its own", x, Edges.market());
    }

    static void promise01_512Calls() {
        RoundTrips x = new RoundTrips();
        x.add();
        x.add();
        for (int call = 3; call < 510; call++) {
            Check.due("call " + call, x.pay(call % 2, 1 - call % 2, 9, call), call - 3 < 32 ? call - 3 : -1);
        }
        Check.due("call 510", x.many(1), 32);
        Check.due("call 511", x.undo(), 9);
        Check.due("call 512: any of 16 with any of 15", x.many(3), 16 * 15);
        x = new RoundTrips();
        for (int call = 1; call < 510; call++) {
            x.bound(0, call % 3);
        }
        for (int left = 9; left >= 7; left--) {
            Check.due("the last of 512 calls", x.undo(), left);
        }
    }

    // ---- 2: status

    static void promise02_ofTheLatestCallThatHasOne() {
        RoundTrips x = Edges.market();
        int[] due = {1, 2, 4, 5, 6, 7, 9, 0};
        for (int i = 0; i < due.length; i++) {
            switch (i) {
                case 0 -> x.many(11);
                case 1 -> x.heat(4);
                case 2 -> x.bound(0, 90);
                case 3 -> x.left(32);
                case 4 -> x.join(0, 0);
                case 5 -> x.without(16);
                case 6 -> x.load(19);
                default -> x.many(0);
            }
            Check.due("status()", x.status(), due[i]);
            x.feed(0, 0, 0, 0, 0);
            x.fault(0);
            x.fault(9);
            Check.due("feed(), fault(), status() have none", x.status(), due[i]);
        }
        RoundTrips full = Edges.full();
        full.add();
        Check.due("status()", full.status(), 3);
    }

    static void promise02_asOftenAsAsked() {
        RoundTrips x = Edges.market();
        x.undo();
        for (int i = 0; i < 3; i++) {
            Check.due("status()", x.status(), 0);
        }
        Check.due("ACTS", x.many(5), 2);
    }

    // ---- 3: feed

    static void promise03_atMost800() {
        RoundTrips x = new RoundTrips();
        for (int i = 1; i <= 40; i++) {
            Check.due("feed " + i, blanks(x), 20 * i);
        }
        for (int i = 0; i < 3; i++) {
            Check.due("a 41st", x.feed(-1, -1, -1, -1, -1), -1);
        }
        Check.due("nothing came of it: all 800 are blanks", x.load(800), 0);
        Check.due("the tape is empty", blanks(x), 20);
    }

    static void promise03_theHighestByteFirst() {
        RoundTrips x = new RoundTrips();
        x.feed(0x61203162, BLANKS, BLANKS, BLANKS, BLANKS);
        x.load(20);
        Check.due("a, a blank, then 1", x.fault(1), 2);
        x.feed(BLANKS, BLANKS, BLANKS, BLANKS, 0x2020203B);
        x.load(20);
        Check.due("the last byte of the last int", x.fault(1), 19);
        x.feed(0x3B202020, BLANKS, BLANKS, BLANKS, BLANKS);
        x.load(20);
        Check.due("the first byte of the first int", x.fault(1), 0);
        x.feed(0x6120FF62, 0, 0, 0, 0);
        x.load(20);
        Check.due("a byte above 127", x.fault(1), 2);
        x.feed(MIN, MIN, MIN, MIN, MIN);
        x.load(20);
        Check.due("the highest bit", x.fault(0), 1);
        blanks(x);
        x.feed(0x613B2020, BLANKS, BLANKS, BLANKS, BLANKS);
        Check.due("behind those on the tape", x.load(22), 1);
    }

    // ---- 4: load

    static void promise04_asManyAsTheTapeHas() {
        refused("load(41)", 1, x -> x.load(41));
        Edges.refused(Edges::empty, "load(21)", 1, x -> x.load(21));
        refused("load(-1)", 1, x -> x.load(-1));
        refused("load(MIN)", 1, x -> x.load(MIN));
        refused("load(MAX)", 1, x -> x.load(MAX));
        refused("load(801)", 1, x -> x.load(801));
        Edges.refused(RoundTrips::new, "load(1) of an empty tape", 1, x -> x.load(1));
        RoundTrips x = new RoundTrips();
        for (int i = 0; i < 40; i++) {
            blanks(x);
        }
        Check.refused(x, "load(801)", x.load(801), 1);
        Check.due(x, "load(800)", x.load(800), 0, 0);
        Check.refused(x, "load(1) of an empty tape", x.load(1), 1);
    }

    static void promise04_theFirstNBytes() {
        String text = "a b;c d;e #         ";
        int[] n = {0, 4, 8};
        for (int i = 0; i < n.length; i++) {
            RoundTrips x = new RoundTrips();
            Check.feed(x, text);
            Check.due(x, "load(" + n[i] + ")", x.load(n[i]), n[i] / 2, 0);
            Check.due("all of the tape goes", x.feed(0, 0, 0, 0, 0), 20);
        }
        RoundTrips x = new RoundTrips();
        Check.feed(x, text);
        Check.refused(x, "load(20)", x.load(20), 9);
        Check.due("all of the tape goes", x.feed(0, 0, 0, 0, 0), 20);
    }

    static void promise04_with9TheOldOneStays() {
        RoundTrips x = Edges.market();
        String book = Edges.picture(x);
        Check.refused(x, "load(19)", x.load(19), 9);
        Check.due("the book", Edges.picture(x).equals(book), true);
        // good lines ahead of the FAULT do not count
        Check.feed(x, "m n;window 7;trust m;pay m>n 5 at 5;#");
        Check.refused(x, "load(37)", x.load(37), 9);
        Check.due("the book", Edges.picture(x).equals(book), true);
        Check.due("undo() of the ACT ahead", x.undo(), 2);
        Edges.refused(BookEdgesTest::behindAFault, "load(1) behind it", 1, y -> y.load(1));
        Edges.refused(BookEdgesTest::behindAFault, "the same FAULT again", 9, y -> {
            Check.feed(y, "q r s;pay q>r 5 at 5");
            return y.load(19);
        });
    }

    private static RoundTrips behindAFault() {
        RoundTrips x = Edges.market();
        x.load(19);
        return x;
    }

    static void promise04_theBookIsTheTextAlone() {
        RoundTrips x = Edges.market();
        x.bound(1, 2);
        x.trust(0, true);
        Check.due(x, "load(6)", x.load(6), 3, 0);
        Check.due("TRANSFERS", x.many(1), 0);
        Check.due("TRUSTED", x.many(2), 0);
        int[] without = {100, 4, 10, 0};
        for (int which = 0; which < 4; which++) {
            Check.due("bounds(" + which + ")", x.bounds(which), without[which]);
        }
        Check.due("MARKS stay", x.many(6), 2);
        Check.due("an ACT more", x.many(5), 6);
    }

    static void promise04_nothingOfTheTextAhead() {
        String all = "a b c;pay a>b 5 at 5;trust a;window 7;longest 2;loss 7;gain 7;";
        RoundTrips x = Check.loaded(all);
        Check.due(x, "told again", Check.load(x, all), 3, 0);
        Check.due("TRANSFERS", x.many(1), 1);
        Check.due("TRUSTED", x.many(2), 1);
        Check.due(x, "of one ACCOUNT", Check.load(x, "z;"), 1, 0);
        int[] without = {100, 4, 10, 0};
        for (int which = 0; which < 4; which++) {
            Check.due("bounds(" + which + ")", x.bounds(which), without[which]);
        }
        Check.due("TRANSFERS", x.many(1), 0);
        Check.due("TRUSTED", x.many(2), 0);
        Check.refused(x, "a is told no more", Check.load(x, "z;trust a;"), 9);
        Check.due("fault(0)", x.fault(0), 3);
        Check.due(x, "behind a FAULT", Check.load(x, "z;loss 5;"), 1, 0);
        Check.due("bounds(0)", x.bounds(0), 100);
    }

    static void promise04_noneAndAll() {
        RoundTrips x = Edges.market();
        Check.due(x, "load(0)", x.load(0), 0, 0);
        Check.due("no ACCOUNTS", x.many(0), 0);
        Check.due("it is an ACT", x.many(5), 4);
        Check.due("fault(0)", x.fault(0), 0);
        x = Edges.full();
        Check.due("12", x.many(0), 12);
        Check.due("32", x.many(1), 32);
    }

    // ---- 5: fault

    static void promise05_aheadOfAnyLoad() {
        RoundTrips x = new RoundTrips();
        x.load(5);
        x.load(-1);
        x.add();
        for (int what = -1; what <= 2; what++) {
            Check.due("fault(" + what + ")", x.fault(what), -1);
        }
    }

    static void promise05_ofTheLatestLoadWith0Or9() {
        RoundTrips x = Edges.market();
        Check.due("fault(0)", x.fault(0), 0);
        Check.due("fault(1)", x.fault(1), -1);
        x.load(18);
        Check.due("fault(0)", x.fault(0), 2);
        Check.due("fault(1)", x.fault(1), 18);
        x.load(1);
        x.load(-1);
        Check.due("not of a load() with 1", x.fault(0), 2);
        Check.due("not of a load() with 1", x.fault(1), 18);
        x.undo();
        x.back();
        Check.due("nor of other calls", x.fault(0), 2);
        Check.due("nor of other calls", x.fault(1), 18);
        x.load(0);
        Check.due("fault(0)", x.fault(0), 0);
        Check.due("fault(1)", x.fault(1), -1);
        Check.load(x, "#");
        Check.due("fault(0)", x.fault(0), 1);
        Check.due("place 0", x.fault(1), 0);
    }

    static void promise05_forOthersNone() {
        RoundTrips x = Edges.empty();
        for (int what : new int[] {-1, 2, MIN, MAX}) {
            Check.due("fault(" + what + ")", x.fault(what), -1);
        }
        Check.due("fault(0)", x.fault(0), 1);
        Check.due("fault(1)", x.fault(1), 2);
    }

    static void promise05_eachKindAndPlace() {
        String[] texts = {"#", "a", "a a;", "loss 91;", "loss 1;loss 1;", "a b c d e f g h i j k l m;"};
        int[] place = {0, 1, 2, 5, 7, 24};
        for (int kind = 1; kind <= 6; kind++) {
            Check.faulty(texts[kind - 1], kind, place[kind - 1]);
        }
        Check.faulty("a" + " ".repeat(799), 2, 800);
    }

    // ---- 6: many

    static void promise06_what() {
        refused("many(-1)", 1, x -> x.many(-1));
        refused("many(11)", 1, x -> x.many(11));
        refused("many(MIN)", 1, x -> x.many(MIN));
        refused("many(MAX)", 1, x -> x.many(MAX));
        int[] due = {4, 7, 8, 3, 3, 3, 2, 4837, 0, 1, 1480};
        for (int what = 0; what <= 10; what++) {
            int w = what;
            Edges.quiet(Edges::market, "many(" + what + ")", due[what], x -> x.many(w));
        }
    }

    static void promise06_noneAndAsManyAsThereCanBe() {
        RoundTrips x = Check.loaded("a b c d e f g h i j k l;" + "pay a>l 9999 at 1;".repeat(32) + "trust a;");
        int[] due = {12, 32, 1, 0, 0, 1, 0, 319968, 0, 0, 0};
        for (int what = 0; what <= 10; what++) {
            Check.due(x, "many(" + what + ")", x.many(what), due[what], 0);
        }
        for (int a = 1; a < 12; a++) {
            x.trust(a, true);
        }
        Check.due("all TRUSTED", x.many(2), 4095);
        Check.due("ten ACTS at most", x.many(5), 10);
        for (int marks = 1; marks <= 3; marks++) {
            x.mark();
            Check.due("MARKS", x.many(6), marks);
        }
        x.mark();
        Check.due("MARKS, 3 at most", x.many(6), 3);
    }

    static void promise06_eachAlarmOfTwo() {
        String pair = "a b c;pay a>b 9 at 1;pay b>a 9 at 2;";
        Check.due("without ALARMS", Check.loaded("a b c;pay a>b 9 at 1;").many(8), 0);
        Check.due("one of two", Check.loaded(pair).many(8), 1);
        Check.due("one of two, one of three", Check.loaded(pair + "pay b>c 9 at 3;pay c>a 9 at 4;").many(8), 0);
        Check.due("one of three", Check.loaded("a b c;pay a>b 9 at 1;pay b>c 9 at 2;pay c>a 9 at 3;").many(8), 0);
        Check.due("two of two", Check.loaded(pair + "pay b>c 8 at 3;pay c>b 8 at 4;").many(8), 1);
    }

    static void promise06_clusters() {
        String two = "a b c d;pay a>b 9 at 1;pay b>a 9 at 2;pay c>d 9 at 1;pay d>c 9 at 2;";
        Check.due("two", Check.loaded(two).many(9), 2);
        Check.due("a link", Check.loaded(two + "pay b>c 8 at 3;pay c>b 8 at 4;").many(9), 1);
        Check.due("six", Check.loaded("a b c d e f g h i j k l;pay a>b 9 at 1;pay b>a 9 at 2;pay c>d 9 at 1;pay d>c 9 at 2;"
            + "pay e>f 9 at 1;pay f>e 9 at 2;pay g>h 9 at 1;pay h>g 9 at 2;pay i>j 9 at 1;pay j>i 9 at 2;pay k>l 9 at 1;"
                + "pay l>k 9 at 2;").many(9), 6);
    }

    // ---- 7: bounds

    static void promise07_which() {
        refused("bounds(-1)", 1, x -> x.bounds(-1));
        refused("bounds(4)", 1, x -> x.bounds(4));
        refused("bounds(MIN)", 1, x -> x.bounds(MIN));
        refused("bounds(MAX)", 1, x -> x.bounds(MAX));
        int[] due = {90, 4, 10, 0};
        for (int which = 0; which < 4; which++) {
            int w = which;
            Edges.quiet(Edges::market, "bounds(" + which + ")", due[which], x -> x.bounds(w));
        }
    }

    // ---- 8: transfer

    static void promise08_transferAndWhat() {
        refused("transfer(7, 0)", 5, x -> x.transfer(7, 0));
        refused("transfer(MAX, 6)", 5, x -> x.transfer(MAX, 6));
        Edges.refused(Edges::full, "transfer(32, 0)", 5, x -> x.transfer(32, 0));
        Edges.refused(Edges::empty, "transfer(0, 0)", 5, x -> x.transfer(0, 0));
        refused("transfer(-1, 0)", 1, x -> x.transfer(-1, 0));
        refused("transfer(MIN, 0)", 1, x -> x.transfer(MIN, 0));
        refused("transfer(0, -1)", 1, x -> x.transfer(0, -1));
        refused("transfer(0, 7)", 1, x -> x.transfer(0, 7));
        refused("transfer(7, 7)", 1, x -> x.transfer(7, 7));
        int[] first = {0, 1, 10, 1000, 2, 0, 1};
        int[] last = {3, 0, 70, 7, 0, 0, 3};
        for (int what = 0; what <= 6; what++) {
            int w = what;
            Edges.quiet(Edges::market, "transfer(0, " + what + ")", first[what], x -> x.transfer(0, w));
            Edges.quiet(Edges::market, "transfer(6, " + what + ")", last[what], x -> x.transfer(6, w));
        }
        Check.due("the last of 32", Edges.full().transfer(31, 3), 1);
    }

    static void promise08_roundsItIsIn() {
        RoundTrips x = Check.loaded("a b;pay a>b 9 at 1;pay b>a 9 at 2;");
        int[][] due = {{1, 0, 0}, {1, 1, 0}};
        for (int t = 0; t < 2; t++) {
            for (int what = 4; what <= 6; what++) {
                Check.due("transfer(" + t + ", " + what + ")", x.transfer(t, what), due[t][what - 4]);
            }
        }
        x.pay(0, 1, 9, 3);
        x.pay(1, 0, 9, 4);
        // 0 1, 0 3, 1 2, 2 3
        int[][] more = {{2, 0, 2}, {2, 1, 2}, {2, 1, 2}, {2, 2, 2}};
        for (int t = 0; t < 4; t++) {
            for (int what = 4; what <= 6; what++) {
                Check.due("transfer(" + t + ", " + what + ")", x.transfer(t, what), more[t][what - 4]);
            }
            int without = x.transfer(t, 6);
            x.strike(t);
            Check.due("without it", x.many(3), without);
            x.undo();
        }
    }

    // ---- 9: account

    static void promise09_accountAndWhat() {
        refused("account(4, 0)", 2, x -> x.account(4, 0));
        refused("account(-1, 0)", 2, x -> x.account(-1, 0));
        refused("account(MIN, 0)", 2, x -> x.account(MIN, 0));
        refused("account(MAX, 7)", 2, x -> x.account(MAX, 7));
        Edges.refused(Edges::empty, "account(0, 0)", 2, x -> x.account(0, 0));
        Edges.refused(Edges::full, "account(12, 0)", 2, x -> x.account(12, 0));
        refused("account(0, -1)", 1, x -> x.account(0, -1));
        refused("account(0, 8)", 1, x -> x.account(0, 8));
        refused("account(4, 8)", 1, x -> x.account(4, 8));
        refused("account(-1, -1)", 1, x -> x.account(-1, -1));
        int[] first = {2, 4, 1500, 2387, 0, 3, 3, -1000};
        int[] last = {1, 0, 7, 0, 1, 0, 0, -7};
        for (int what = 0; what <= 7; what++) {
            int w = what;
            Edges.quiet(Edges::market, "account(0, " + what + ")", first[what], x -> x.account(0, w));
            Edges.quiet(Edges::market, "account(3, " + what + ")", last[what], x -> x.account(3, w));
        }
        RoundTrips x = Edges.full();
        int[] all = {0, 32, 0, 32, 0, 0, 0, 0};
        for (int what = 0; what <= 7; what++) {
            Check.due(x, "account(1, " + what + ")", x.account(1, what), all[what], 0);
            Check.due(x, "account(11, " + what + ")", x.account(11, what), 0, 0);
        }
    }

    static void promise09_theLeastItEverHad() {
        RoundTrips x = Check.loaded("a b;pay a>b 5 at 3;pay b>a 9 at 3;");
        Check.due("of one TIME by numbers", x.account(0, 7), -5);
        Check.due("of one TIME by numbers", x.account(1, 7), -4);
        x = Check.loaded("a b;pay b>a 9 at 3;pay a>b 5 at 3;");
        Check.due("never below 0", x.account(0, 7), 0);
        Check.due("-9", x.account(1, 7), -9);
        x = Check.loaded("a b;pay b>a 9 at 3;pay a>b 9 at 4;");
        Check.due("to 0 again", x.account(0, 7), 0);
        x = Check.loaded("a b;pay a>b 1 at 1;");
        Check.due(x, "-1, no NONE", x.account(0, 7), -1, 0);
        x = Check.loaded("a b;" + "pay a>b 9999 at 1;".repeat(32));
        Check.due("the least that there can be", x.account(0, 7), -319968);
        Check.due("AMOUNTS FROM it", x.account(0, 2), 319968);
        Check.due("AMOUNTS TO it", x.account(1, 3), 319968);
        x = Check.loaded("a b;pay a>b 5 at 1;pay b>a 3 at 2;pay a>b 2 at 3;pay a>b 2 at 4;pay b>a 9 at 5;");
        Check.due("in between", x.account(0, 7), -6);
    }

    static void promise09_alarms() {
        RoundTrips x = Check.loaded("a b c;pay a>b 9 at 1;pay b>a 9 at 2;pay a>b 9 at 3;pay b>a 9 at 4;");
        Check.due("ROUNDS", x.account(0, 5), 4);
        Check.due("ALARMS", x.account(0, 6), 1);
        Check.due("no ROUNDS", x.account(2, 5), 0);
        Check.due("no ALARMS", x.account(2, 6), 0);
        x = Edges.market();
        int[] rounds = {3, 2, 2, 0};
        int[] alarms = {3, 2, 2, 0};
        for (int a = 0; a < 4; a++) {
            Check.due("account(" + a + ", 5)", x.account(a, 5), rounds[a]);
            Check.due("account(" + a + ", 6)", x.account(a, 6), alarms[a]);
        }
    }

    // ---- 10: add

    static void promise10_twelveAtMost() {
        Edges.refused(Edges::full, "add()", 3, RoundTrips::add);
        RoundTrips x = new RoundTrips();
        for (int a = 0; a < 12; a++) {
            Check.due(x, "add()", x.add(), a, 0);
            Check.due("none TRUSTED", x.account(a, 4), 0);
        }
        Check.refused(x, "add()", x.add(), 3);
        Check.refused(x, "add()", x.add(), 3);
        Check.due("many(0)", x.many(0), 12);
        x.join(0, 11);
        Check.due(x, "a 12th again", x.add(), 11, 0);
        Check.refused(x, "add()", x.add(), 3);
        x.undo();
        Check.due(x, "a 12th again", x.add(), 11, 0);
    }

    static void promise10_anAccountMoreChangesNoOther() {
        RoundTrips x = Check.loaded(Edges.THREE);
        Check.due("add()", x.add(), 4);
        Check.due("TRUSTED", x.many(2), 8);
        Check.due("TRANSFERS", x.many(1), 6);
        Check.due("ROUNDS", x.many(3), 3);
        // one more where the last TRUSTED one was
        x.undo();
        x.join(3, 0);
        Check.due("add()", x.add(), 3);
        Check.due("none TRUSTED", x.many(2), 0);
    }

    // ---- 11: pay

    static void promise11_numbersThatCantBe() {
        refused("AMOUNT 0", 1, x -> x.pay(0, 1, 0, 5));
        refused("AMOUNT -1", 1, x -> x.pay(0, 1, -1, 5));
        refused("AMOUNT 10000", 1, x -> x.pay(0, 1, 10000, 5));
        refused("AMOUNT MAX", 1, x -> x.pay(0, 1, MAX, 5));
        refused("TIME -1", 1, x -> x.pay(0, 1, 5, -1));
        refused("TIME 10000", 1, x -> x.pay(0, 1, 5, 10000));
        refused("TIME MIN", 1, x -> x.pay(0, 1, 5, MIN));
        RoundTrips x = new RoundTrips();
        x.add();
        x.add();
        Check.due(x, "the greatest", x.pay(0, 1, 9999, 9999), 0, 0);
        Check.due(x, "the least", x.pay(1, 0, 1, 0), 0, 0);
    }

    static void promise11_accounts() {
        refused("FROM -1", 2, x -> x.pay(-1, 1, 5, 5));
        refused("FROM 4", 2, x -> x.pay(4, 1, 5, 5));
        refused("TO -1", 2, x -> x.pay(1, -1, 5, 5));
        refused("TO 4", 2, x -> x.pay(1, 4, 5, 5));
        refused("TO MAX", 2, x -> x.pay(1, MAX, 5, 5));
        Edges.refused(Edges::empty, "none", 2, x -> x.pay(0, 1, 5, 5));
        refused("both are one", 6, x -> x.pay(3, 3, 5, 5));
        RoundTrips x = Edges.market();
        Check.due(x, "of the last one", x.pay(3, 0, 5, 5), 0, 0);
        Check.due(x, "to the last one", x.pay(0, 3, 5, 5), 1, 0);
    }

    static void promise11_32AtMost() {
        Edges.refused(Edges::full, "a 33rd", 3, x -> x.pay(0, 1, 1, 0));
        Edges.refused(Edges::full, "a 33rd behind", 3, x -> x.pay(0, 1, 1, 9999));
        RoundTrips x = Edges.full();
        x.strike(31);
        Check.due(x, "the 32nd ahead of all", x.pay(0, 1, 2, 0), 0, 0);
        x.undo();
        Check.due(x, "the 32nd behind all", x.pay(0, 1, 2, 1), 31, 0);
        Check.refused(x, "a 33rd", x.pay(0, 1, 2, 1), 3);
        Check.due("AMOUNT", x.transfer(31, 3), 2);
    }

    // ---- 12: strike

    static void promise12_whichThereIs() {
        refused("strike(-1)", 1, x -> x.strike(-1));
        refused("strike(MIN)", 1, x -> x.strike(MIN));
        refused("strike(7)", 5, x -> x.strike(7));
        refused("strike(MAX)", 5, x -> x.strike(MAX));
        Edges.refused(Edges::full, "strike(32)", 5, x -> x.strike(32));
        Edges.refused(Edges::empty, "strike(0)", 5, x -> x.strike(0));
        RoundTrips x = Edges.full();
        Check.due(x, "the last of 32", x.strike(31), 31, 0);
        for (int left = 30; left >= 0; left--) {
            Check.due(x, "the first", x.strike(0), left, 0);
        }
        Check.refused(x, "none is left", x.strike(0), 5);
        Check.due("ACCOUNTS stay", x.many(0), 12);
    }

    // ---- 13: trust

    static void promise13_trust() {
        Edges.denied(Edges::market, "trust(-1, true)", 2, x -> x.trust(-1, true) ? 1 : 0);
        Edges.denied(Edges::market, "trust(4, true)", 2, x -> x.trust(4, true) ? 1 : 0);
        Edges.denied(Edges::market, "trust(4, false)", 2, x -> x.trust(4, false) ? 1 : 0);
        Edges.denied(Edges::market, "trust(MIN, true)", 2, x -> x.trust(MIN, true) ? 1 : 0);
        Edges.denied(Edges::market, "trust(MAX, false)", 2, x -> x.trust(MAX, false) ? 1 : 0);
        Edges.denied(Edges::market, "trust(32, true)", 2, x -> x.trust(32, true) ? 1 : 0);
        Edges.denied(Edges::full, "trust(12, true)", 2, x -> x.trust(12, true) ? 1 : 0);
        Edges.denied(Edges::empty, "trust(0, true)", 2, x -> x.trust(0, true) ? 1 : 0);
        Edges.denied(Edges::market, "TRUSTED already", 4, x -> x.trust(3, true) ? 1 : 0);
        Edges.denied(Edges::market, "not TRUSTED already", 4, x -> x.trust(0, false) ? 1 : 0);
        RoundTrips x = Edges.full();
        for (int a = 0; a < 12; a++) {
            x.heat(12);
            Check.due("trust(" + a + ", true)", x.trust(a, true), true);
            Check.due("status()", x.status(), 0);
            Check.due("many(2)", x.many(2), (2 << a) - 1);
        }
        for (int a = 0; a < 12; a++) {
            Check.due("trust(" + a + ", false)", x.trust(a, false), true);
            Check.due("many(2)", x.many(2), 4095 & ~((2 << a) - 1));
        }
    }

    // ---- 14: bound

    static void promise14_whichAndMuch() {
        int[] is = {90, 4, 10, 0};
        int[] least = {0, 2, 0, 0};
        int[] most = {9999, 5, 90, 90};
        for (int which = 0; which < 4; which++) {
            int w = which;
            for (int much : new int[] {least[w] - 1, most[w] + 1, MIN, MAX}) {
                refused("bound(" + w + ", " + much + ")", 1, x -> x.bound(w, much));
            }
            refused("as it is", 4, x -> x.bound(w, is[w]));
            RoundTrips x = Edges.market();
            int was = is[w];
            for (int much : new int[] {most[w], least[w], least[w] + 1, most[w] - 1}) {
                if (much != was) {
                    Check.due(x, "bound(" + w + ", " + much + ")", x.bound(w, much), was, 0);
                    Check.due("bounds(" + w + ")", x.bounds(w), much);
                    was = much;
                }
            }
            for (int other = 0; other < 4; other++) {
                Check.due("no other", x.bounds(other), other == w ? was : is[other]);
            }
        }
        for (int which : new int[] {-1, 4, MIN, MAX}) {
            refused("bound(" + which + ", 3)", 1, x -> x.bound(which, 3));
        }
    }

    // ---- 15: join

    static void promise15_accounts() {
        refused("join(-1, 0)", 2, x -> x.join(-1, 0));
        refused("join(0, -1)", 2, x -> x.join(0, -1));
        refused("join(4, 0)", 2, x -> x.join(4, 0));
        refused("join(0, 4)", 2, x -> x.join(0, 4));
        refused("join(MIN, MAX)", 2, x -> x.join(MIN, MAX));
        Edges.refused(Edges::empty, "join(0, 0)", 2, x -> x.join(0, 0));
        Edges.refused(Edges::full, "join(0, 12)", 2, x -> x.join(0, 12));
        for (int a = 0; a < 4; a++) {
            int both = a;
            refused("both are one", 6, x -> x.join(both, both));
        }
    }

    static void promise15_firstAndLast() {
        RoundTrips x = Edges.full();
        Check.due(x, "none between", x.join(11, 2), 0, 0);
        Check.due("eleven", x.many(0), 11);
        Check.due(x, "all between", x.join(1, 0), 32, 0);
        Check.due("ten", x.many(0), 10);
        Check.due("no TRANSFERS", x.many(1), 0);
        for (int left = 9; left >= 1; left--) {
            Check.due(x, "join(0, " + left + ")", x.join(0, left), 0, 0);
        }
        Check.due("one", x.many(0), 1);
        Check.refused(x, "join(0, 0)", x.join(0, 0), 6);
        Check.refused(x, "join(0, 1)", x.join(0, 1), 2);
    }

    static void promise15_inWhateverOrderTheyAreTold() {
        String text = "a b c d e;trust b;trust e;pay a>b 1 at 1;pay b>c 2 at 2;pay c>d 3 at 3;pay d>b 4 at 4;pay e>d 5 at 5;"
            + "pay b>d 6 at 6;";
        for (int way = 0; way < 2; way++) {
            RoundTrips x = Check.loaded(text);
            Check.due(x, "join b, d", way == 0 ? x.join(1, 3) : x.join(3, 1), 2, 0);
            Check.due("ACCOUNTS", x.many(0), 4);
            Check.due("b and what was e", x.many(2), 2 | 8);
            int[][] due = {{0, 1, 1}, {1, 2, 2}, {2, 1, 3}, {3, 1, 5}};
            Check.due("TRANSFERS", x.many(1), due.length);
            for (int t = 0; t < due.length; t++) {
                Check.due("FROM", x.transfer(t, 0), due[t][0]);
                Check.due("TO", x.transfer(t, 1), due[t][1]);
                Check.due("AMOUNT", x.transfer(t, 3), due[t][2]);
                Check.due("TIME", x.transfer(t, 2), due[t][2]);
            }
        }
    }

    static void promise15_trustedIfTheLesserOneWas() {
        for (int trusted = 0; trusted < 16; trusted++) {
            RoundTrips x = Check.loaded("a b c d;");
            for (int a = 0; a < 4; a++) {
                x.trust(a, (trusted >> a & 1) == 1);
            }
            x.join(2, 1);
            Check.due("of " + trusted, x.many(2), trusted & 3 | trusted >> 3 << 2);
        }
    }

    // ---- 16: undo

    static void promise16_tenAtMostNoneAtAll() {
        Edges.refused(RoundTrips::new, "undo()", 5, RoundTrips::undo);
        Edges.refused(Edges::empty, "undo()", 5, RoundTrips::undo);
        Edges.refused(() -> {
            RoundTrips x = Edges.market();
            x.undo();
            x.undo();
            x.undo();
            return x;
        }, "a fourth undo()", 5, RoundTrips::undo);
        RoundTrips x = new RoundTrips();
        for (int a = 0; a < 11; a++) {
            x.add();
        }
        for (int left = 9; left >= 0; left--) {
            Check.due(x, "undo()", x.undo(), left, 0);
            Check.due("many(0)", x.many(0), left + 1);
        }
        Check.refused(x, "an 11th", x.undo(), 5);
        Check.due("many(0)", x.many(0), 1);
    }

    static void promise16_allIsAsItWas() {
        RoundTrips x = Edges.market();
        String[] books = {Edges.picture(x), null, null, null, null, null};
        x.strike(0);
        books[1] = Edges.picture(x);
        x.trust(3, false);
        books[2] = Edges.picture(x);
        x.join(0, 1);
        books[3] = Edges.picture(x);
        x.load(6);
        books[4] = Edges.picture(x);
        x.add();
        for (int back = 4; back >= 0; back--) {
            Check.due(x, "undo()", x.undo(), 3 + back, 0);
            String now = Edges.picture(x);
            String due = books[back];
            Check.due("the book behind undo(), but for ACTS", now.replaceAll("^(many( \\S+){5}) \\S+", "$1")
                .equals(due.replaceAll("^(many( \\S+){5}) \\S+", "$1")), true);
        }
        Check.due("MARKS stay", x.many(6), 2);
    }

    static void promise16_anActBehindUndo() {
        RoundTrips x = new RoundTrips();
        x.add();
        x.add();
        x.undo();
        Check.due("ACTS", x.many(5), 1);
        x.bound(0, 7);
        Check.due("ACTS", x.many(5), 2);
        x.undo();
        Check.due("bounds(0)", x.bounds(0), 100);
        Check.due("many(0)", x.many(0), 1);
        x.undo();
        Check.due("many(0)", x.many(0), 0);
        Check.refused(x, "undo()", x.undo(), 5);
    }

    // ---- 17, 18: mark, back

    private static RoundTrips marked(int marks) {
        RoundTrips x = Edges.market();
        for (int i = x.many(6); i < marks; i++) {
            x.mark();
        }
        return x;
    }

    static void promise17_threeAtMost() {
        Edges.refused(() -> marked(3), "a fourth mark()", 3, RoundTrips::mark);
        RoundTrips x = new RoundTrips();
        for (int marks = 1; marks <= 3; marks++) {
            Check.due(x, "mark()", x.mark(), marks, 0);
            Check.due("no ACT", x.many(5), 0);
            x.add();
            x.undo();
        }
        Check.refused(x, "mark()", x.mark(), 3);
        x.back();
        Check.due(x, "a third again", x.mark(), 3, 0);
        Check.refused(x, "mark()", x.mark(), 3);
    }

    static void promise18_noneAtAll() {
        Edges.refused(RoundTrips::new, "back()", 5, RoundTrips::back);
        Edges.refused(Edges::full, "back()", 5, RoundTrips::back);
        Edges.refused(() -> {
            RoundTrips x = Edges.market();
            x.back();
            x.back();
            return x;
        }, "a third back()", 5, RoundTrips::back);
    }

    static void promise18_asAtTheLatestMark() {
        RoundTrips x = new RoundTrips();
        for (int i = 0; i < 3; i++) {
            x.mark();
            x.add();
            x.bound(0, i);
        }
        x.trust(0, true);
        int[] bounds = {100, 0, 1};
        for (int left = 2; left >= 0; left--) {
            Check.due(x, "back()", x.back(), left, 0);
            Check.due("many(0)", x.many(0), left);
            Check.due("bounds(0)", x.bounds(0), bounds[left]);
            Check.due("TRUSTED", x.many(2), 0);
            Check.due("MARKS", x.many(6), left);
            Check.due("what can be undone stays", x.many(5), 7);
        }
        Check.refused(x, "back()", x.back(), 5);
    }

    static void promise18_noActAndWhatCanBeUndoneStays() {
        RoundTrips x = Check.loaded("a b;");
        x.mark();
        x.add();
        x.add();
        x.back();
        Check.due("many(0)", x.many(0), 2);
        Check.due("ACTS", x.many(5), 3);
        Check.due(x, "undo()", x.undo(), 2, 0);
        Check.due("as ahead of the latest ACT", x.many(0), 3);
        x = Check.loaded("a b;pay a>b 9 at 1;pay b>a 9 at 2;");
        x.mark();
        x.strike(0);
        Check.due("no ROUNDS", x.many(3), 0);
        x.back();
        Check.due("the ROUND is back", x.many(3), 1);
        x.undo();
        Check.due("and here again", x.many(3), 1);
        // a MARK outlasts load() and undo()
        x.mark();
        x.undo();
        Check.load(x, "z;");
        Check.due(x, "back()", x.back(), 0, 0);
        Check.due("TRANSFERS", x.many(1), 2);
    }

    public static void main(String[] args) throws ReflectiveOperationException {
        Edges.run(BookEdgesTest.class, 1, 18);
    }
}
