/** Boundary cases of ==== 1 under 'Terms': ACCOUNTS, TRANSFERS, BOUNDS, the text, FAULTS, ACTS; and of ==== 4: STATUS. */
public final class TermsEdgesTest {
    private static final String[] WORDS = {"pay", "at", "trust", "window", "longest", "loss", "gain"};
    private static final String TWELVE = Edges.TWELVE;

    private TermsEdgesTest() { }

    private static void loads(String text, int accounts) {
        RoundTrips x = new RoundTrips();
        Check.due(x, "load of " + text, Check.load(x, text), accounts, 0);
        Check.due("fault(0) of " + text, x.fault(0), 0);
        Check.due("fault(1) of " + text, x.fault(1), -1);
        Check.due("many(0) of " + text, x.many(0), accounts);
    }

    // ---- ACCOUNTS, TRANSFERS, BOUNDS

    static void term1_noAccountsAndTwelve() {
        loads("", 0);
        loads("a;", 1);
        loads("a b c d e f g h i j k;", 11);
        loads(TWELVE, 12);
        Check.faulty("a b c d e f g h i j k l m;", 6, 24);
        RoundTrips x = Check.loaded("a b c d e f g h i j k;");
        Check.due(x, "the 12th", x.add(), 11, 0);
        Check.refused(x, "the 13th", x.add(), 3);
        Check.due(x, "the last one counts", x.pay(11, 0, 1, 1), 0, 0);
    }

    static void term1_noTransfersAnd32() {
        String pays = "pay a>b 1 at 1;";
        Check.due("none", Check.loaded("a b;").many(1), 0);
        Check.due("31", Check.loaded("a b;" + pays.repeat(31)).many(1), 31);
        RoundTrips x = Check.loaded("a b;" + pays.repeat(32));
        Check.due("32", x.many(1), 32);
        Check.due(x, "the last one", x.transfer(31, 3), 1, 0);
        Check.refused(x, "behind the last one", x.transfer(32, 3), 5);
        Check.faulty("a b;" + pays.repeat(33), 6, 4 + 32 * pays.length());
        x.strike(0);
        Check.due(x, "the 32nd again", x.pay(1, 0, 1, 0), 0, 0);
        Check.refused(x, "the 33rd", x.pay(1, 0, 1, 0), 3);
    }

    static void term1_timeFrom0To9999() {
        RoundTrips x = Check.loaded("a b;pay a>b 1 at 0;pay a>b 1 at 9999;");
        Check.due("TIME 0", x.transfer(0, 2), 0);
        Check.due("TIME 9999", x.transfer(1, 2), 9999);
        Check.faulty("a b;pay a>b 1 at 10000;", 1, 17);
        Check.due(x, "TIME 0", x.pay(1, 0, 1, 0), 1, 0);
        Check.due(x, "TIME 9999", x.pay(1, 0, 1, 9999), 3, 0);
        Check.refused(x, "TIME -1", x.pay(1, 0, 1, -1), 1);
        Check.refused(x, "TIME 10000", x.pay(1, 0, 1, 10000), 1);
    }

    static void term1_amountFrom1To9999() {
        RoundTrips x = Check.loaded("a b;pay a>b 1 at 5;pay a>b 0001 at 5;pay a>b 9999 at 5;");
        int[] due = {1, 1, 9999};
        for (int t = 0; t < 3; t++) {
            Check.due("AMOUNT", x.transfer(t, 3), due[t]);
        }
        Check.faulty("a b;pay a>b 0 at 5;", 4, 12);
        Check.faulty("a b;pay a>b 0000 at 5;", 4, 12);
        Check.faulty("a b;pay a>b 10000 at 5;", 1, 12);
        Check.due(x, "AMOUNT 1", x.pay(1, 0, 1, 5), 3, 0);
        Check.due(x, "AMOUNT 9999", x.pay(1, 0, 9999, 5), 4, 0);
        Check.refused(x, "AMOUNT 0", x.pay(1, 0, 0, 5), 1);
        Check.refused(x, "AMOUNT 10000", x.pay(1, 0, 10000, 5), 1);
    }

    static void term1_fromAndToAreUnlike() {
        RoundTrips x = Check.loaded(TWELVE);
        for (int a = 0; a < 12; a++) {
            Check.refused(x, "of one to itself", x.pay(a, a, 1, 1), 6);
        }
        Check.due(x, "from the first to the last", x.pay(0, 11, 1, 1), 0, 0);
        Check.due(x, "from the last to the first", x.pay(11, 0, 1, 1), 1, 0);
        Check.faulty(TWELVE + "pay l>l 1 at 1;", 4, 30);
        Check.faulty("abcdef abcdeg;pay abcdef>abcdef 1 at 1;", 4, 25);
        Check.due("unlike in the last letter", Check.loaded("abcdef abcdeg;pay abcdef>abcdeg 1 at 1;").many(1), 1);
    }

    static void term1_ofOneTimeAsTheyCame() {
        RoundTrips x = Check.loaded("a b;pay a>b 1 at 5;pay a>b 2 at 4;pay a>b 3 at 5;pay a>b 4 at 6;pay a>b 5 at 5;");
        amounts(x, 2, 1, 3, 5, 4);
        Check.due("of one TIME the last", x.pay(0, 1, 6, 5), 4);
        Check.due("of one TIME the last", x.pay(0, 1, 7, 4), 1);
        Check.due("ahead of all", x.pay(0, 1, 8, 3), 0);
        Check.due("behind all", x.pay(0, 1, 9, 6), 8);
        amounts(x, 8, 2, 7, 1, 3, 5, 6, 4, 9);
        x = new RoundTrips();
        x.add();
        x.add();
        for (int t = 0; t < 32; t++) {
            Check.due("all of one TIME", x.pay(0, 1, t + 1, 0), t);
        }
        for (int t = 0; t < 32; t++) {
            Check.due("as they came", x.transfer(t, 3), t + 1);
        }
    }

    static void term1_numbersBehindChange() {
        RoundTrips x = Check.loaded("a b;pay a>b 1 at 1;pay a>b 2 at 2;pay a>b 3 at 3;pay a>b 4 at 4;");
        x.pay(0, 1, 9, 2);
        amounts(x, 1, 2, 9, 3, 4);
        x.strike(0);
        amounts(x, 2, 9, 3, 4);
        x.strike(3);
        amounts(x, 2, 9, 3);
        x.strike(1);
        amounts(x, 2, 3);
        x.undo();
        x.undo();
        x.undo();
        amounts(x, 1, 2, 9, 3, 4);
    }

    private static void amounts(RoundTrips x, int... due) {
        Check.due("many(1)", x.many(1), due.length);
        for (int t = 0; t < due.length; t++) {
            Check.due("AMOUNT of TRANSFER " + t, x.transfer(t, 3), due[t]);
        }
    }

    static void term1_boundsByText() {
        int[] without = {100, 4, 10, 0};
        String[] words = {"window ", "longest ", "loss ", "gain "};
        int[] least = {0, 2, 0, 0};
        int[] most = {9999, 5, 90, 90};
        for (int which = 0; which < 4; which++) {
            Check.due("without", new RoundTrips().bounds(which), without[which]);
            Check.due("without", Check.loaded("a;").bounds(which), without[which]);
            Check.due("the least", Check.loaded(words[which] + least[which] + ";").bounds(which), least[which]);
            Check.due("the most", Check.loaded(words[which] + most[which] + ";").bounds(which), most[which]);
            int place = words[which].length();
            Check.faulty(words[which] + (most[which] + 1) + ";", which == 0 ? 1 : 4, place);
            Check.faulty(words[which] + "10000;", 1, place);
        }
        Check.faulty("longest 0;", 4, 8);
        Check.faulty("longest 1;", 4, 8);
        Check.faulty("longest 9999;", 4, 8);
        Check.faulty("loss 9999;", 4, 5);
        Check.faulty("gain 9999;", 4, 5);
        RoundTrips x = Check.loaded("gain 3;loss 4;longest 3;window 7;");
        int[] due = {7, 3, 4, 3};
        for (int which = 0; which < 4; which++) {
            Check.due("all told", x.bounds(which), due[which]);
        }
    }

    // ---- the text

    static void term1_textOf800Bytes() {
        loads("a" + " ".repeat(797) + "b;", 2);
        Check.faulty("a" + " ".repeat(799), 2, 800);
        Check.faulty("a;" + " ".repeat(797) + "#", 1, 799);
        Check.faulty("a;" + " ".repeat(797) + ";", 2, 799);
        Check.faulty("#" + " ".repeat(799), 1, 0);
        loads(" ".repeat(800), 0);
        loads("\n".repeat(798) + "a;", 1);
    }

    static void term1_eachByte() {
        for (int b = 0; b < 256; b++) {
            String sign = String.valueOf((char) b);
            boolean letter = b >= 97 && b <= 122;
            boolean blank = b == 10 || b == 32;
            boolean other = b >= 48 && b <= 57 || b == 62;
            if (letter || blank || b == 59) {
                loads("a" + sign + "z;", letter ? 1 : 2);
            } else {
                Check.faulty("a" + sign + "z;", other ? 2 : 1, 1);
            }
            if (b == 'z') {
                Check.faulty("z z;", 3, 2);
            } else if (letter || blank) {
                loads(sign + " z;", letter ? 2 : 1);
            } else {
                Check.faulty(sign + " z;", other || b == 59 ? 2 : 1, 0);
            }
        }
    }

    static void term1_tokensAsLongAsTheyGo() {
        loads("a b;pay a>b 1at2;pay a>b 1at 2;pay a>b 1 at2;", 2);
        Check.due("window5", Check.loaded("window5;").bounds(0), 5);
        loads("paya payb;pay paya>payb 1 at 1;trust paya;", 2);
        loads("lossa gaina trusta atat;", 4);
        Check.faulty("a b;paya>b 1 at 1;", 2, 8);
        Check.faulty("a;trusta;trusta;", 3, 9);
        Check.faulty("a b;pay a>b 1 att 1;", 2, 14);
        Check.faulty("a b;pay ab>b 1 at 1;", 3, 8);
        Check.faulty("a1;", 2, 1);
        Check.faulty("window 1 2;", 2, 9);
        Check.faulty("window 1a;", 2, 8);
        Check.faulty("a b;pay a>b 12 34 at 1;", 2, 15);
        loads("  \n a \n\n b ; \n pay a\n>\nb\n1\nat\n2\n;\n\n", 2);
        loads("a b;pay a>b 1 at 2;trust a;window 3;longest 3;loss 3;gain 3;", 2);
    }

    static void term1_numbersOf1To4Digits() {
        String[] good = {"0", "9", "00", "10", "000", "999", "0000", "0009", "9999"};
        for (String number : good) {
            Check.due("window " + number, Check.loaded("window " + number + ";").bounds(0), Integer.parseInt(number));
            RoundTrips x = Check.loaded("a b;pay a>b 1 at " + number + ";");
            Check.due("at " + number, x.transfer(0, 2), Integer.parseInt(number));
        }
        Check.faulty("window 00000;", 1, 7);
        Check.faulty("window 00009;", 1, 7);
        Check.faulty("window 99999;", 1, 7);
        Check.faulty("window 123456789012345678901234567890;", 1, 7);
        Check.faulty("window 12345", 1, 7);
        Check.faulty("window ;", 2, 7);
    }

    static void term1_namesOf1To6Letters() {
        loads("a aa aaa aaaa aaaaa aaaaaa;", 6);
        loads("z zz zzz zzzz zzzzz zzzzzz;", 6);
        loads("abcdef abcdeg bbcdef;trust abcdeg;pay abcdef>bbcdef 1 at 1;", 3);
        Check.faulty("abcdefg;", 2, 0);
        Check.faulty("a abcdefg;", 2, 2);
        Check.faulty("a;trust abcdefg;", 2, 8);
        Check.faulty("a;pay abcdefg>a 1 at 1;", 2, 6);
        Check.faulty("a;pay a>abcdefg 1 at 1;", 2, 8);
        Check.faulty("abcdef;trust abcdefabcdef;", 2, 13);
        Check.faulty("a".repeat(700) + ";", 2, 0);
    }

    static void term1_namesAreNoneOfTheWords() {
        for (String word : WORDS) {
            Check.faulty("a " + word + ";", 2, 2);
            Check.faulty("a;trust " + word + ";", 2, 8);
            Check.faulty("a;pay " + word + ">a 1 at 1;", 2, 6);
            Check.faulty("a;pay a>" + word + " 1 at 1;", 2, 8);
        }
        Check.faulty("at;", 2, 0);
        loads("pa pays ay;a ats t;trus trusts;", 8);
        loads("windo indow longes ongest los losss gai gains oss ain;", 10);
        Check.faulty("windows;", 2, 0);
        Check.faulty("longesta;", 2, 0);
        Check.faulty("longests 3;", 2, 0);
    }

    static void term1_linesAnyNumberOfTimes() {
        loads("a;b;c;d;e;f;g;h;i;j;k;l;", 12);
        loads("a b;c;d e f;", 6);
        loads("window 3;a;loss 3;trust a;b;pay a>b 1 at 1;gain 3;pay b>a 1 at 1;longest 3;c;trust c;", 3);
        RoundTrips x = Check.loaded(TWELVE + "trust a;trust b;trust c;trust d;trust e;trust f;trust g;trust h;trust i;"
            + "trust j;trust k;trust l;");
        Check.due("all TRUSTED", x.many(2), 4095);
    }

    // ---- FAULTS

    static void term1_fault1NoTokenBeginsSo() {
        String[] ahead = {"", "a ", "a b;", "a b;pay ", "a b;pay a", "a b;pay a>", "a b;pay a>b ", "a b;pay a>b 1 ",
            "a b;pay a>b 1 at ", "a b;pay a>b 1 at 1", "a;trust ", "a;trust a", "window ", "window 5 ", "longest ", "loss ", "gain "};
        for (String text : ahead) {
            Check.faulty(text + "#", 1, text.length());
            Check.faulty(text + "Pay", 1, text.length());
            Check.faulty(text + " 12345;", 1, text.length() + 1);
        }
    }

    static void term1_fault2TheEnd() {
        String[] tokens = {"a", "b", ";", "pay", "a", ">", "b", "1", "at", "2", ";", "trust", "a", ";", "window", "3", ";",
            "longest", "3", ";", "loss", "3", ";", "gain", "3", ";"};
        StringBuilder text = new StringBuilder();
        for (String token : tokens) {
            text.append(token);
            if (token.equals(";")) {
                loads(text.toString(), 2);
            } else {
                Check.faulty(text.toString(), 2, text.length());
                Check.faulty(text + " \n ", 2, text.length() + 3);
            }
            text.append(' ');
        }
    }

    private static void cantStand(String ahead, String... tokens) {
        for (String token : tokens) {
            Check.faulty(ahead + token + " ; x 1", 2, ahead.length());
        }
    }

    static void term1_fault2CantStand() {
        cantStand("", ">", ";", "7", "at", "abcdefg");
        cantStand("a b;", ">", ";", "7", "at", "abcdefg");
        cantStand("a ", ">", "7", "pay", "at", "trust", "window", "longest", "loss", "gain", "abcdefg");
        cantStand("a b;pay ", ">", ";", "7", "pay", "at", "trust", "window", "longest", "loss", "gain", "abcdefg");
        cantStand("a b;pay a ", ";", "7", "at", "b", "pay", "abcdefg");
        cantStand("a b;pay a> ", ">", ";", "7", "pay", "at", "trust", "window", "longest", "loss", "gain", "abcdefg");
        cantStand("a b;pay a>b ", ">", ";", "at", "a", "pay", "abcdefg");
        cantStand("a b;pay a>b 1 ", ">", ";", "7", "a", "pay", "trust", "window", "longest", "loss", "gain", "abcdefg");
        cantStand("a b;pay a>b 1 at ", ">", ";", "at", "a", "pay", "abcdefg");
        cantStand("a b;pay a>b 1 at 1 ", ">", "7", "at", "a", "pay", "abcdefg");
        cantStand("a b;trust ", ">", ";", "7", "pay", "at", "trust", "window", "longest", "loss", "gain", "abcdefg");
        cantStand("a b;trust a ", ">", "7", "at", "b", "abcdefg");
        for (String word : new String[] {"window ", "longest ", "loss ", "gain "}) {
            cantStand(word, ">", ";", "at", "a", "abcdefg", word);
            cantStand(word + "3 ", ">", "7", "at", "a", "abcdefg");
        }
    }

    static void term1_fault3Names() {
        Check.faulty("a a;", 3, 2);
        Check.faulty("a;a;", 3, 2);
        Check.faulty("a b c d e f g h i j k k;", 3, 22);
        Check.faulty("abcdef abcdef;", 3, 7);
        Check.faulty("a b;window 5;c b;", 3, 15);
        Check.faulty("trust a;", 3, 6);
        Check.faulty("trust a;a;", 3, 6);
        Check.faulty("a;trust b;", 3, 8);
        Check.faulty("a b;pay c>a 1 at 1;c;", 3, 8);
        Check.faulty("a b;pay a>c 1 at 1;c;", 3, 10);
        Check.faulty("pay a>b 1 at 1;", 3, 4);
        Check.faulty(TWELVE + "trust m;", 3, 30);
        Check.faulty("a b;pay c>c 1 at 1;", 3, 8);
    }

    static void term1_fault4Numbers() {
        Check.faulty("a b;pay a>b 0 at 1;", 4, 12);
        Check.faulty("longest 1;", 4, 8);
        Check.faulty("longest 6;", 4, 8);
        Check.faulty("loss 91;", 4, 5);
        Check.faulty("gain 91;", 4, 5);
        Check.faulty("a b;pay a>a 1 at 1;", 4, 10);
        Check.faulty("a b;pay b > b 1 at 1;", 4, 12);
    }

    static void term1_fault5ToldAlready() {
        String[] lines = {"window 5;", "longest 5;", "loss 5;", "gain 5;"};
        for (String line : lines) {
            Check.faulty(line + line, 5, line.length());
            Check.faulty(line + "a;" + line.replace('5', '4'), 5, line.length() + 2);
            for (String other : lines) {
                if (!other.equals(line)) {
                    loads(line + other, 0);
                    Check.faulty(line + other + line, 5, line.length() + other.length());
                }
            }
        }
        Check.faulty("window 100;window 100;", 5, 11);
        Check.faulty("a b;trust a;trust a;", 5, 18);
        Check.faulty("a b;trust b;trust a;trust b;", 5, 26);
        loads("a b;trust b;trust a;", 2);
    }

    static void term1_fault6OneTooMany() {
        Check.faulty(TWELVE + "m;", 6, 24);
        Check.faulty("a;b;c;d;e;f;g;h;i;j;k;l;m;", 6, 24);
        Check.faulty("a b c d e f g h i j k l m n;", 6, 24);
        String full = "a b;" + "pay a>b 1 at 1;".repeat(32);
        Check.faulty(full + "pay a>b 1 at 1;", 6, full.length());
        Check.faulty(full + " \n pay a>b 1 at 1;", 6, full.length() + 3);
        loads(full + "trust a;c;window 9;", 3);
    }

    static void term1_ofOneTokenTheLeastKind() {
        Check.faulty("12345;", 1, 0);                         // 1 and 2
        Check.faulty("a 12345;", 1, 2);
        Check.faulty("a b;pay a>b 99999 at 1;", 1, 12);       // 1 and 4
        Check.faulty("longest 00006;", 1, 8);
        Check.faulty("loss 5;a loss;", 2, 9);                 // 2 and 5
        Check.faulty("window 5;at;window 5;", 2, 9);
        Check.faulty(TWELVE.replace(";", " ") + "abcdefg;", 2, 24);   // 2 and 6
        Check.faulty(TWELVE.replace(";", " ") + "pay;", 2, 24);
        Check.faulty(TWELVE.replace(";", " ") + "7;", 2, 24);
        Check.faulty(TWELVE.replace(";", " ") + "#;", 1, 24);
        Check.faulty(TWELVE.replace(";", " ") + "a;", 3, 24);         // 3 and 6
        Check.faulty(TWELVE + "l;", 3, 24);
        String full = "a b;" + "pay a>b 1 at 1;".repeat(32);
        Check.faulty(full + "a pay;", 3, full.length());
        Check.faulty(full + "c pay;", 2, full.length() + 2);
    }

    static void term1_theFirstAlongTheText() {
        Check.faulty("a a;#", 3, 2);
        Check.faulty("window 5;window #", 5, 9);
        Check.faulty("window 5;window", 5, 9);
        Check.faulty("a b;pay a>a 0 at 12345", 4, 10);
        Check.faulty("a b;pay c>c 0", 3, 8);
        Check.faulty("a b;pay a>b 0 #", 4, 12);
        Check.faulty("longest 6#", 4, 8);
        Check.faulty("a;trust a;trust a #", 5, 16);
        Check.faulty(TWELVE + "m #", 6, 24);
        String full = "a b;" + "pay a>b 1 at 1;".repeat(32);
        Check.faulty(full + "pay #", 6, full.length());
        Check.faulty(full + "pay", 6, full.length());
        Check.faulty(full + "pay c>c 0 at 12345;", 6, full.length());
        Check.faulty("; # a a", 2, 0);
    }

    // ---- ACTS

    private static void act(String name, Edges.Call call) {
        RoundTrips x = Edges.market();
        RoundTrips y = Edges.market();
        int acts = x.many(5);
        call.on(x);
        Check.due("STATUS of " + name, x.status(), 0);
        Check.due("ACTS behind " + name, x.many(5), acts + 1);
        Check.due(x, "undo() of " + name, x.undo(), acts, 0);
        Check.due("the book behind undo() of " + name, Edges.picture(x).equals(Edges.picture(y)), true);
    }

    static void term1_actsAreSeven() {
        act("load", x -> x.load(6));
        act("add", RoundTrips::add);
        act("pay", x -> x.pay(1, 0, 5, 0));
        act("strike", x -> x.strike(2));
        act("trust", x -> x.trust(1, true) ? 1 : 0);
        act("trust no more", x -> x.trust(3, false) ? 1 : 0);
        act("bound", x -> x.bound(1, 2));
        act("join", x -> x.join(2, 0));
    }

    static void term1_noOtherCallIsAnAct() {
        RoundTrips x = Edges.market();
        int acts = x.many(5);
        x.status();
        x.feed(0, 0, 0, 0, 0);
        x.fault(0);
        x.mark();
        x.back();
        x.would(0, 1, 5, 5);
        x.need(0);
        x.freeze();
        x.without(1);
        x.load(-1);
        x.strike(9);
        Check.due("ACTS", x.many(5), acts);
        x.load(40);
        Check.due("status()", x.status(), 9);
        Check.due("ACTS behind a FAULT", x.many(5), acts);
        x.undo();
        Check.due("ACTS behind undo()", x.many(5), acts - 1);
    }

    static void term1_theLatest10CanBeUndone() {
        RoundTrips x = new RoundTrips();
        for (int act = 1; act <= 11; act++) {
            x.bound(0, act);
            Check.due("ACTS", x.many(5), Math.min(act, 10));
        }
        for (int left = 9; left >= 0; left--) {
            Check.due(x, "undo()", x.undo(), left, 0);
            Check.due("bounds(0)", x.bounds(0), left + 1);
        }
        Check.refused(x, "the 11th", x.undo(), 5);
        Check.due("bounds(0)", x.bounds(0), 1);
        for (int act = 1; act <= 10; act++) {
            x.bound(0, 50 + act);
        }
        for (int left = 9; left >= 0; left--) {
            Check.due(x, "undo()", x.undo(), left, 0);
        }
        Check.due("ten are all", x.bounds(0), 1);
        Check.refused(x, "the 11th", x.undo(), 5);
    }

    // ---- STATUS: the first of these that holds

    private static void first(String name, int status, Edges.Call call) {
        Edges.refused(Edges::market, name, status, call);
    }

    static void term4_1AheadOf2() {
        first("account(9, 8)", 1, x -> x.account(9, 8));
        first("pay(9, 9, 0, 0)", 1, x -> x.pay(9, 9, 0, 0));
        first("would(-1, 9, 1, 10000)", 1, x -> x.would(-1, 9, 1, 10000));
        first("soonest(9, 0, 0, 2)", 1, x -> x.soonest(9, 0, 0, 2));
        first("soonest(0, 9, -1, 0)", 1, x -> x.soonest(0, 9, -1, 0));
        first("step(9, 9, 0, -1)", 1, x -> x.step(9, 9, 0, -1));
        first("most(-1, 0, -1)", 1, x -> x.most(-1, 0, -1));
        first("reach(9, 10000)", 1, x -> x.reach(9, 10000));
        first("chain(-1, -1)", 1, x -> x.chain(-1, -1));
        first("part(9, 0, 10000)", 1, x -> x.part(9, 0, 10000));
    }

    static void term4_1AheadOf5() {
        first("transfer(9, 7)", 1, x -> x.transfer(9, 7));
        first("round(9, 7)", 1, x -> x.round(9, 7));
        first("hop(9, -1)", 1, x -> x.hop(9, -1));
        first("hop(-1, 9)", 1, x -> x.hop(-1, 9));
        first("alarm(9, 5)", 1, x -> x.alarm(9, 5));
        first("ring(9, -1)", 1, x -> x.ring(9, -1));
        first("ring(-1, 9)", 1, x -> x.ring(-1, 9));
        first("closed(9, -1)", 1, x -> x.closed(9, -1));
        first("closed(-1, 9)", 1, x -> x.closed(-1, 9));
        first("funnel(9, -1, 0)", 1, x -> x.funnel(9, -1, 0));
        first("funnel(9, 0, 6)", 1, x -> x.funnel(9, 0, 6));
        Edges.refused(Edges::empty, "top(4)", 1, x -> x.top(4));
        Edges.refused(Edges::empty, "peak(2)", 1, x -> x.peak(2));
        Edges.refused(Edges::empty, "need(1)", 1, x -> x.need(1));
    }

    static void term4_1AheadOf4() {
        Edges.refused(Edges::market, "bound(4, 100)", 1, x -> x.bound(4, 100));
        Edges.refused(Edges::market, "bound(1, 6)", 1, x -> x.bound(1, 6));
    }

    static void term4_2AheadOf3And4And6() {
        Edges.refused(Edges::full, "pay(0, 12, 1, 1)", 2, x -> x.pay(0, 12, 1, 1));
        Edges.refused(Edges::full, "would(12, 12, 1, 1)", 2, x -> x.would(12, 12, 1, 1));
        Edges.denied(Edges::market, "trust(4, false)", 2, x -> x.trust(4, false) ? 1 : 0);
        first("join(4, 4)", 2, x -> x.join(4, 4));
        first("pay(4, 4, 1, 1)", 2, x -> x.pay(4, 4, 1, 1));
        first("soonest(4, 4, 0, 0)", 2, x -> x.soonest(4, 4, 0, 0));
        first("most(-1, -1, 0)", 2, x -> x.most(-1, -1, 0));
    }

    static void term4_3AheadOf6() {
        Edges.refused(Edges::full, "pay(3, 3, 1, 1)", 3, x -> x.pay(3, 3, 1, 1));
        Edges.refused(Edges::full, "would(3, 3, 1, 1)", 3, x -> x.would(3, 3, 1, 1));
        Edges.refused(Edges::full, "pay(3, 3, 0, 1)", 1, x -> x.pay(3, 3, 0, 1));
    }

    static void term4_6NotFiveOfTwoThatAreOne() {
        for (int a = 0; a < 4; a++) {
            int both = a;
            first("soonest of one", 6, x -> x.soonest(both, both, 0, 0));
            first("step of one", 6, x -> x.step(both, both, 0, 99));
            first("most of one", 6, x -> x.most(both, both, 0));
        }
    }

    static void term4_loadWith9ChangesTheTapeAndTheFault() {
        RoundTrips x = Edges.market();
        RoundTrips y = Edges.market();
        Check.refused(x, "load(19)", x.load(19), 9);
        Check.due("fault(0)", x.fault(0), 2);
        Check.due("fault(1)", x.fault(1), 19);
        Check.due("the tape is empty", x.feed(0, 0, 0, 0, 0), 20);
        Check.due("the tape was not", y.feed(0, 0, 0, 0, 0), 40);
        y.load(40);
        x.load(20);
        y.feed(0, 0, 0, 0, 0);
        y.load(20);
        Edges.same("behind load() with 9", x, y);
        x = Edges.market();
        y = Edges.market();
        x.load(19);
        for (int left = 2; left >= 0; left--) {
            Check.due("the book is as it was", Edges.picture(x).equals(Edges.picture(y)), true);
            Check.due(x, "undo()", x.undo(), left, 0);
            y.undo();
        }
        Check.due(x, "back()", x.back(), 1, 0);
    }

    static void term4_statusOfCallsThatHaveNone() {
        RoundTrips x = Edges.market();
        x.strike(99);
        Check.due("status()", x.status(), 5);
        x.feed(0, 0, 0, 0, 0);
        Check.due("behind feed()", x.status(), 5);
        x.fault(0);
        x.fault(-1);
        x.fault(2);
        Check.due("behind fault()", x.status(), 5);
        Check.due("again", x.status(), 5);
    }

    public static void main(String[] args) throws ReflectiveOperationException {
        Edges.run(TermsEdgesTest.class, 0, -1);
    }
}
