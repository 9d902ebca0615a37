/** Promises 1 to 18: the book, its text and its faults, ACTS. */
public final class BookTest {
    private static final String RING = "a b c;pay a>b 1000 at 10;pay b>c 950 at 20;pay c>a 900 at 30;";

    private BookTest() { }

    private static void newObject() {
        RoundTrips x = new RoundTrips();
        Check.due("NONE", RoundTrips.NONE, -1);
        Check.due("status()", x.status(), 0);
        Check.due("fault(0)", x.fault(0), -1);
        Check.due("fault(1)", x.fault(1), -1);
        for (int what = 0; what <= 10; what++) {
            Check.due(x, "many(" + what + ")", x.many(what), 0, 0);
        }
        int[] bounds = {100, 4, 10, 0};
        for (int which = 0; which < 4; which++) {
            Check.due(x, "bounds(" + which + ")", x.bounds(which), bounds[which], 0);
        }
        Check.refused(x, "undo()", x.undo(), 5);
        Check.refused(x, "back()", x.back(), 5);
        Check.refused(x, "load(1)", x.load(1), 1);
        Check.due("first feed", x.feed(0, 0, 0, 0, 0), 20);
    }

    private static void status() {
        RoundTrips x = new RoundTrips();
        x.undo();
        Check.due("status()", x.status(), 5);
        Check.due("status() again", x.status(), 5);
        x.feed(0, 0, 0, 0, 0);
        x.fault(0);
        x.fault(7);
        Check.due("status() behind feed, fault", x.status(), 5);
        x.many(0);
        Check.due("status() behind many", x.status(), 0);
        x.trust(0, true);
        Check.due("status() behind trust", x.status(), 2);
    }

    private static void feed() {
        RoundTrips x = new RoundTrips();
        for (int i = 1; i <= 40; i++) {
            Check.due("feed " + i, x.feed(0x20202020, 0x20202020, 0x20202020, 0x20202020, 0x20202020), 20 * i);
        }
        x.undo();
        Check.due("feed 41", x.feed(0, 0, 0, 0, 0), -1);
        Check.due("status() behind feed 41", x.status(), 5);
        Check.refused(x, "load(801)", x.load(801), 1);
        Check.due(x, "load(800)", x.load(800), 0, 0);
        Check.due("fault(0)", x.fault(0), 0);
        // 'a' 'b' ';' ' ' | 'c' 'd' ';' ' ' | ... : the highest byte of each int first
        Check.due("feed", x.feed(0x61623B20, 0x63643B20, 0x65663B20, 0x67683B20, 0x696A3B20), 20);
        Check.due(x, "load(20)", x.load(20), 5, 0);
        x.feed(0x61620A20, 0x20202020, 0x20202020, 0x20202020, 0x2020203B);
        Check.due(x, "load(20)", x.load(20), 1, 0);
    }

    private static void load() {
        RoundTrips x = new RoundTrips();
        Check.due(x, "load(0)", x.load(0), 0, 0);
        Check.due("many(5)", x.many(5), 1);
        Check.due(x, "load", Check.load(x, RING + "trust b;window 50;longest 3;loss 20;gain 5;"), 3, 0);
        int[] told = {50, 3, 20, 5};
        for (int which = 0; which < 4; which++) {
            Check.due("bounds", x.bounds(which), told[which]);
        }
        Check.due("many(1)", x.many(1), 3);
        Check.due("many(2)", x.many(2), 2);
        Check.refused(x, "load(1) of an empty tape", x.load(1), 1);
        Check.feed(x, "d; #");
        Check.refused(x, "load(-1)", x.load(-1), 1);
        Check.refused(x, "load(21)", x.load(21), 1);
        Check.due("fault(0)", x.fault(0), 0);
        Check.due("the tape stays", x.feed(0, 0, 0, 0, 0), 40);
        Check.due("the book stays", x.many(0), 3);
        Check.refused(x, "load(4)", x.load(4), 9);
        Check.due("the book stays", x.many(0), 3);
        Check.due("the bounds stay", x.bounds(0), 50);
        Check.due("no ACT", x.many(5), 2);
        Check.due("the tape is empty", x.feed(0x643B2000, 0, 0, 0, 0), 20);
        Check.due(x, "load(2)", x.load(2), 1, 0);
        Check.due("the tape is empty", x.feed(0, 0, 0, 0, 0), 20);
        Check.due("no TRANSFERS", x.many(1), 0);
        Check.due("none TRUSTED", x.many(2), 0);
        Check.due("bounds as without", x.bounds(0), 100);
        Check.due("bounds as without", x.bounds(1), 4);
        sorted();
    }

    private static void sorted() {
        RoundTrips x = Check.loaded("a b c;pay a>b 1 at 9;pay b>c 2 at 3;pay c>a 3 at 9;pay a>c 4 at 3;pay b>a 5 at 0;");
        int[] amounts = {5, 2, 4, 1, 3};
        for (int t = 0; t < 5; t++) {
            Check.due("AMOUNT of " + t, x.transfer(t, 3), amounts[t]);
        }
        x = Check.loaded("a\nb\n;c d;pay a>d 0009at0010;pay\na > b\n1 at 0;e;pay e>a 9999 at 9999;");
        Check.due("many(0)", x.many(0), 5);
        Check.due("transfer(1, 3)", x.transfer(1, 3), 9);
        Check.due("transfer(1, 2)", x.transfer(1, 2), 10);
        Check.due("transfer(2, 2)", x.transfer(2, 2), 9999);
        Check.due("transfer(2, 3)", x.transfer(2, 3), 9999);
        x = Check.loaded("payer lossy att trus abcdef window0;".replace("window0", "gains"));
        Check.due("many(0)", x.many(0), 6);
    }

    private static void fault() {
        Check.faulty("#", 1, 0);
        Check.faulty("a b A;", 1, 4);
        Check.faulty("a\tb;", 1, 1);
        Check.faulty("a\rb;", 1, 1);
        Check.faulty("a;\0", 1, 2);
        Check.faulty("a b;pay a>b 10000 at 1;", 1, 12);
        Check.faulty("a b;pay a>b 123456 at 1;", 1, 12);
        Check.faulty("a b;pay a>b 1 at 00000;", 1, 17);
        Check.faulty("12345;", 1, 0);
        Check.faulty("1234;", 2, 0);
        Check.faulty(";", 2, 0);
        Check.faulty("at;", 2, 0);
        Check.faulty(">", 2, 0);
        Check.faulty("a", 2, 1);
        Check.faulty("a  \n ", 2, 5);
        Check.faulty("a 1;", 2, 2);
        Check.faulty("a > b;", 2, 2);
        Check.faulty("a pay;", 2, 2);
        Check.faulty("a trust;", 2, 2);
        Check.faulty("a window;", 2, 2);
        Check.faulty("a longest;", 2, 2);
        Check.faulty("a loss;", 2, 2);
        Check.faulty("a gain;", 2, 2);
        Check.faulty("a at;", 2, 2);
        Check.faulty("abcdefg;", 2, 0);
        Check.faulty("a abcdefg;", 2, 2);
        Check.faulty("longestt;", 2, 0);
        Check.faulty("a;trust longest;", 2, 8);
        Check.faulty("a;trust abcdefg;", 2, 8);
        Check.faulty("a;trust 1;", 2, 8);
        Check.faulty("a;trust a", 2, 9);
        Check.faulty("a;trust a a;", 2, 10);
        Check.faulty("a b;pay 1>b 1 at 1;", 2, 8);
        Check.faulty("a b;pay abcdefg>b 1 at 1;", 2, 8);
        Check.faulty("a b;pay a;b 1 at 1;", 2, 9);
        Check.faulty("a b;pay a b 1 at 1;", 2, 10);
        Check.faulty("a b;pay a>b at 1;", 2, 12);
        Check.faulty("a b;pay a>b 1 on 1;", 2, 14);
        Check.faulty("a b;pay a>b 1 1;", 2, 14);
        Check.faulty("a b;pay a>b 1 at at;", 2, 17);
        Check.faulty("a b;pay a>b 1 at 1 pay", 2, 19);
        Check.faulty("a b;pay a>b 1 at 1>", 2, 18);
        Check.faulty("window;", 2, 6);
        Check.faulty("window a;", 2, 7);
        Check.faulty("window 5", 2, 8);
        Check.faulty("window 5 5;", 2, 9);
        Check.faulty("a a;", 3, 2);
        Check.faulty("a b;c a;", 3, 6);
        Check.faulty("trust a;a;", 3, 6);
        Check.faulty("a b;pay c>b 1 at 1;", 3, 8);
        Check.faulty("a b;pay a>c 1 at 1;", 3, 10);
        Check.faulty("a b;pay a>b 0 at 1;", 4, 12);
        Check.faulty("a b;pay a>a 0 at 1;", 4, 10);
        Check.faulty("longest 1;", 4, 8);
        Check.faulty("longest 6;", 4, 8);
        Check.faulty("loss 91;", 4, 5);
        Check.faulty("gain 91;", 4, 5);
        Check.faulty("window 5;window 5;", 5, 9);
        Check.faulty("longest 5;loss 5;longest #", 5, 17);
        Check.faulty("loss 0;loss 0;", 5, 7);
        Check.faulty("gain 0;gain 0;", 5, 7);
        Check.faulty("a b;trust a;trust b;trust a;", 5, 26);
        Check.faulty("a b c d e f g h i j k l m;", 6, 24);
        Check.faulty("a b c d e f g h i j k l;m;", 6, 24);
        Check.faulty("a b c d e f g h i j k l;a;", 3, 24);
        String full = "a b;" + "pay a>b 1 at 1;".repeat(32);
        Check.faulty(full + "pay a>b 1 at 1;", 6, 484);
        Check.faulty(full + "pay #", 6, 484);
        Check.loaded(full);
        Check.loaded("a b c d e f g h i j k l;");
        Check.loaded("window 0;longest 2;loss 0;gain 0;");
        Check.loaded("window 9999;longest 5;loss 90;gain 90;");
        latestFault();
    }

    private static void latestFault() {
        RoundTrips x = new RoundTrips();
        Check.load(x, "a #");
        Check.due("fault(0)", x.fault(0), 1);
        Check.due("fault(1)", x.fault(1), 2);
        Check.due("fault(2)", x.fault(2), -1);
        Check.due("fault(-1)", x.fault(-1), -1);
        x.load(1);
        x.add();
        x.undo();
        Check.due("fault(0) behind others", x.fault(0), 1);
        Check.due("fault(1) behind others", x.fault(1), 2);
        Check.load(x, "a;");
        Check.due("fault(0)", x.fault(0), 0);
        Check.due("fault(1)", x.fault(1), -1);
    }

    private static void many() {
        RoundTrips x = Check.loaded(RING + "d;pay d>a 7 at 9999;trust d;");
        int[] due = {4, 4, 8, 1, 1, 1, 0, 2857, 0, 1, 900};
        for (int what = 0; what < due.length; what++) {
            Check.due(x, "many(" + what + ")", x.many(what), due[what], 0);
        }
        Check.refused(x, "many(-1)", x.many(-1), 1);
        Check.refused(x, "many(11)", x.many(11), 1);
        x.mark();
        Check.due("many(6)", x.many(6), 1);
        x = Check.loaded("a b c d;pay a>b 9 at 1;pay b>a 9 at 2;pay c>d 9 at 1;pay d>c 9 at 2;");
        Check.due("many(4)", x.many(4), 2);
        Check.due("many(8)", x.many(8), 1);
        Check.due("many(9)", x.many(9), 2);
        Check.due("many(10)", x.many(10), 18);
    }

    private static void boundsAndBound() {
        RoundTrips x = new RoundTrips();
        Check.refused(x, "bounds(-1)", x.bounds(-1), 1);
        Check.refused(x, "bounds(4)", x.bounds(4), 1);
        int[] was = {100, 4, 10, 0};
        int[] least = {0, 2, 0, 0};
        int[] most = {9999, 5, 90, 90};
        for (int which = 0; which < 4; which++) {
            Check.refused(x, "bound as it is", x.bound(which, was[which]), 4);
            Check.refused(x, "bound too low", x.bound(which, least[which] - 1), 1);
            Check.refused(x, "bound too high", x.bound(which, most[which] + 1), 1);
            Check.due(x, "bound", x.bound(which, most[which]), was[which], 0);
            Check.due(x, "bounds", x.bounds(which), most[which], 0);
            Check.due(x, "bound", x.bound(which, least[which]), most[which], 0);
            Check.due(x, "bounds", x.bounds(which), least[which], 0);
        }
        Check.refused(x, "bound(-1)", x.bound(-1, 5), 1);
        Check.refused(x, "bound(4)", x.bound(4, 5), 1);
        Check.due("many(5)", x.many(5), 8);
    }

    private static void transfer() {
        RoundTrips x = Check.loaded(RING + "pay b>a 1000 at 40;pay a>c 500 at 50;");
        int[] due = {0, 1, 10, 1000, 2, 0, 0};
        for (int what = 0; what < due.length; what++) {
            Check.due(x, "transfer(0, " + what + ")", x.transfer(0, what), due[what], 0);
        }
        Check.due("transfer(3, 4)", x.transfer(3, 4), 1);
        Check.due("transfer(3, 5)", x.transfer(3, 5), 1);
        Check.due("transfer(3, 6)", x.transfer(3, 6), 1);
        Check.due("transfer(4, 6)", x.transfer(4, 6), 2);
        Check.refused(x, "transfer(5, 0)", x.transfer(5, 0), 5);
        Check.refused(x, "transfer(-1, 0)", x.transfer(-1, 0), 1);
        Check.refused(x, "transfer(0, -1)", x.transfer(0, -1), 1);
        Check.refused(x, "transfer(0, 7)", x.transfer(0, 7), 1);
        Check.refused(x, "transfer(9, 7)", x.transfer(9, 7), 1);
    }

    private static void account() {
        RoundTrips x = Check.loaded(RING + "pay b>a 1000 at 40;pay a>c 500 at 40;trust c;d;pay d>c 1 at 0;");
        int[] due = {2, 2, 1500, 1900, 0, 1, 1, -1000};
        for (int what = 0; what < due.length; what++) {
            Check.due(x, "account(0, " + what + ")", x.account(0, what), due[what], 0);
        }
        Check.due("account(1, 0)", x.account(1, 0), 2);
        Check.due("account(1, 1)", x.account(1, 1), 1);
        Check.due("account(2, 0)", x.account(2, 0), 1);
        Check.due("account(2, 1)", x.account(2, 1), 3);
        Check.due("account(2, 4)", x.account(2, 4), 1);
        Check.due("account(2, 5)", x.account(2, 5), 0);
        Check.due("account(2, 7)", x.account(2, 7), 0);
        Check.due(x, "account(3, 7)", x.account(3, 7), -1, 0);
        Check.refused(x, "account(4, 0)", x.account(4, 0), 2);
        Check.refused(x, "account(-1, 0)", x.account(-1, 0), 2);
        Check.refused(x, "account(0, -1)", x.account(0, -1), 1);
        Check.refused(x, "account(0, 8)", x.account(0, 8), 1);
        Check.refused(x, "account(4, 8)", x.account(4, 8), 1);
        x = Check.loaded("a b;pay a>b 5 at 3;pay b>a 9 at 3;");
        Check.due("of one TIME by numbers", x.account(0, 7), -5);
        Check.due("of one TIME by numbers", x.account(1, 7), -4);
    }

    private static void addAndPay() {
        RoundTrips x = new RoundTrips();
        Check.refused(x, "pay(0, 1, 1, 1)", x.pay(0, 1, 1, 1), 2);
        for (int a = 0; a < 12; a++) {
            Check.due(x, "add()", x.add(), a, 0);
        }
        Check.refused(x, "add()", x.add(), 3);
        Check.due("many(0)", x.many(0), 12);
        Check.due("many(5)", x.many(5), 10);
        Check.refused(x, "AMOUNT 0", x.pay(0, 1, 0, 1), 1);
        Check.refused(x, "AMOUNT 10000", x.pay(0, 1, 10000, 1), 1);
        Check.refused(x, "TIME -1", x.pay(0, 1, 1, -1), 1);
        Check.refused(x, "TIME 10000", x.pay(0, 1, 1, 10000), 1);
        Check.refused(x, "1 ahead of 2", x.pay(-1, 1, 0, 1), 1);
        Check.refused(x, "FROM -1", x.pay(-1, 1, 1, 1), 2);
        Check.refused(x, "TO 12", x.pay(0, 12, 1, 1), 2);
        Check.refused(x, "TO is FROM", x.pay(3, 3, 1, 1), 6);
        Check.due(x, "pay", x.pay(0, 1, 9999, 9999), 0, 0);
        Check.due(x, "pay", x.pay(0, 1, 1, 0), 0, 0);
        Check.due(x, "pay", x.pay(11, 1, 2, 0), 1, 0);
        Check.due(x, "pay", x.pay(0, 11, 3, 5), 2, 0);
        Check.due("FROM", x.transfer(1, 0), 11);
        Check.due("TO", x.transfer(2, 1), 11);
        for (int t = 4; t < 32; t++) {
            Check.due(x, "pay", x.pay(1, 2, t, 5), t - 1, 0);
        }
        Check.refused(x, "a 33rd", x.pay(1, 2, 1, 5), 3);
        Check.refused(x, "3 ahead of 6", x.pay(1, 1, 1, 5), 3);
        Check.refused(x, "2 ahead of 3", x.pay(1, 12, 1, 5), 2);
        Check.due("many(1)", x.many(1), 32);
    }

    private static void strike() {
        RoundTrips x = Check.loaded(RING);
        Check.due("many(3)", x.many(3), 1);
        Check.refused(x, "strike(-1)", x.strike(-1), 1);
        Check.refused(x, "strike(3)", x.strike(3), 5);
        Check.due(x, "strike(1)", x.strike(1), 2, 0);
        Check.due("AMOUNT", x.transfer(1, 3), 900);
        Check.due("many(3)", x.many(3), 0);
        Check.due(x, "strike(1)", x.strike(1), 1, 0);
        Check.due(x, "strike(0)", x.strike(0), 0, 0);
        Check.refused(x, "strike(0)", x.strike(0), 5);
        Check.due("many(5)", x.many(5), 4);
    }

    private static void trust() {
        RoundTrips x = Check.loaded(RING);
        Check.due("many(3)", x.many(3), 1);
        Check.due("trust(1, false)", x.trust(1, false), false);
        Check.due("status()", x.status(), 4);
        Check.due("trust(1, true)", x.trust(1, true), true);
        Check.due("status()", x.status(), 0);
        Check.due("many(2)", x.many(2), 2);
        Check.due("many(3)", x.many(3), 0);
        Check.due("trust(1, true)", x.trust(1, true), false);
        Check.due("status()", x.status(), 4);
        Check.due("trust(3, true)", x.trust(3, true), false);
        Check.due("status()", x.status(), 2);
        Check.due("trust(-1, false)", x.trust(-1, false), false);
        Check.due("status()", x.status(), 2);
        Check.due("trust(1, false)", x.trust(1, false), true);
        Check.due("many(3)", x.many(3), 1);
        Check.due("many(5)", x.many(5), 3);
    }

    private static void join() {
        String text = "a b c d;pay a>b 1 at 1;pay b>c 2 at 2;pay c>b 3 at 3;pay c>d 4 at 4;pay d>a 5 at 5;trust c;trust d;";
        RoundTrips x = Check.loaded(text);
        Check.refused(x, "join(1, 1)", x.join(1, 1), 6);
        Check.refused(x, "join(4, 1)", x.join(4, 1), 2);
        Check.refused(x, "join(1, -1)", x.join(1, -1), 2);
        Check.refused(x, "join(4, 4)", x.join(4, 4), 2);
        Check.due(x, "join(2, 1)", x.join(2, 1), 2, 0);
        Check.due("many(0)", x.many(0), 3);
        Check.due("many(1)", x.many(1), 3);
        Check.due("TRUSTED: what was d alone", x.many(2), 4);
        int[][] due = {{0, 1, 1}, {1, 2, 4}, {2, 0, 5}};
        for (int t = 0; t < 3; t++) {
            Check.due("FROM", x.transfer(t, 0), due[t][0]);
            Check.due("TO", x.transfer(t, 1), due[t][1]);
            Check.due("AMOUNT", x.transfer(t, 3), due[t][2]);
        }
        x = Check.loaded(text);
        Check.due(x, "join(2, 3)", x.join(2, 3), 1, 0);
        Check.due("TRUSTED as the lesser one", x.many(2), 4);
        Check.due("FROM", x.transfer(3, 0), 2);
        x = Check.loaded(text);
        Check.due(x, "join(0, 3)", x.join(0, 3), 1, 0);
        Check.due("TRUSTED: c alone", x.many(2), 4);
        Check.due("TO", x.transfer(3, 1), 0);
    }

    private static void undo() {
        RoundTrips x = new RoundTrips();
        for (int i = 0; i < 12; i++) {
            x.add();
        }
        for (int i = 9; i >= 0; i--) {
            Check.due(x, "undo()", x.undo(), i, 0);
        }
        Check.due("many(0)", x.many(0), 2);
        Check.refused(x, "undo()", x.undo(), 5);
        Check.load(x, RING);
        Check.due("many(3)", x.many(3), 1);
        x.pay(1, 0, 1000, 40);
        x.strike(0);
        x.trust(2, true);
        x.bound(0, 5);
        x.join(0, 2);
        Check.refused(x, "no ACT", x.add() == 2 ? x.pay(0, 0, 1, 1) : 0, 6);
        Check.due("many(5)", x.many(5), 7);
        int[][] due = {{2, 3}, {3, 3}, {3, 3}, {3, 3}, {3, 4}, {3, 3}, {2, 0}};
        int[] rounds = {0, 0, 0, 0, 2, 1, 0};
        for (int i = 0; i < due.length; i++) {
            Check.due(x, "undo()", x.undo(), 6 - i, 0);
            Check.due("many(0) behind undo " + i, x.many(0), due[i][0]);
            Check.due("many(3) behind undo " + i, x.many(3), rounds[i]);
            if (i > 0) {
                Check.due("many(1) behind undo " + i, x.many(1), due[i][1]);
            }
        }
        Check.due("the bound is back", x.bounds(0), 100);
        Check.due("none TRUSTED", x.many(2), 0);
    }

    private static void markAndBack() {
        RoundTrips x = new RoundTrips();
        Check.refused(x, "back()", x.back(), 5);
        for (int i = 1; i <= 3; i++) {
            Check.due(x, "add()", x.add(), i - 1, 0);
            Check.due(x, "mark()", x.mark(), i, 0);
        }
        Check.refused(x, "mark()", x.mark(), 3);
        x.add();
        Check.load(x, "z;pay");
        Check.load(x, "z y;trust z;window 3;");
        Check.due("MARKS stay", x.many(6), 3);
        Check.due("many(5)", x.many(5), 5);
        Check.due(x, "back()", x.back(), 2, 0);
        Check.due("many(0)", x.many(0), 3);
        Check.due("many(2)", x.many(2), 0);
        Check.due("bounds(0)", x.bounds(0), 100);
        Check.due("no ACT", x.many(5), 5);
        Check.due(x, "back()", x.back(), 1, 0);
        Check.due("many(0)", x.many(0), 2);
        Check.due(x, "undo()", x.undo(), 4, 0);
        Check.due("as ahead of the latest ACT", x.many(0), 4);
        Check.due(x, "back()", x.back(), 0, 0);
        Check.due("many(0)", x.many(0), 1);
        Check.refused(x, "back()", x.back(), 5);
        Check.load(x, RING);
        x.mark();
        Check.due("many(3)", x.many(3), 1);
        x.strike(0);
        Check.due("many(3)", x.many(3), 0);
        x.back();
        Check.due("many(3) behind back", x.many(3), 1);
    }

    public static void main(String[] args) {
        newObject();
        status();
        feed();
        load();
        fault();
        many();
        boundsAndBound();
        transfer();
        account();
        addAndPay();
        strike();
        trust();
        join();
        undo();
        markAndBack();
        Check.end("BookTest");
    }
}
