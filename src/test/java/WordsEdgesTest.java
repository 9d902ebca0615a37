/** Boundary cases of ==== 2 and ==== 3 under 'Terms': STEP, WAY, ROUND and the words made of these. */
public final class WordsEdgesTest {
    private WordsEdgesTest() { }

    private static void rounds(String text, int want) {
        Check.due("many(3) of " + text, Check.loaded(text).many(3), want);
    }

    private static int bits(float value) {
        return Float.floatToIntBits(value);
    }

    // ---- STEP

    static void term2_stepAtALaterTime() {
        rounds("a b;pay a>b 9 at 5;pay b>a 9 at 6;", 1);
        rounds("a b;pay a>b 9 at 5;pay b>a 9 at 5;", 0);
        rounds("a b;pay b>a 9 at 5;pay a>b 9 at 5;", 0);
        rounds("a b;pay a>b 9 at 6;pay b>a 9 at 5;", 1);
        rounds("a b;pay a>b 9 at 0;pay b>a 9 at 1;", 1);
        rounds("a b;pay a>b 9 at 9998;pay b>a 9 at 9999;", 1);
        rounds("a b;pay a>b 9 at 9999;pay b>a 9 at 9999;", 0);
        rounds("a b c;pay a>b 9 at 1;pay b>c 9 at 2;pay c>a 9 at 2;", 0);
    }

    static void term2_stepByLoss() {
        for (int loss : new int[] {0, 1, 10, 50, 89, 90}) {
            String text = "a b;loss " + loss + ";pay a>b 1000 at 1;";
            rounds(text + "pay b>a " + (1000 - 10 * loss) + " at 2;", 1);
            rounds(text + "pay b>a " + (1000 - 10 * loss - 1) + " at 2;", 0);
            rounds(text + "pay b>a 1000 at 2;", 1);
        }
        rounds("a b;pay a>b 1001 at 1;pay b>a 901 at 2;", 1);
        rounds("a b;pay a>b 1001 at 1;pay b>a 900 at 2;", 0);
        rounds("a b;loss 90;pay a>b 9999 at 1;pay b>a 1000 at 2;", 1);
        rounds("a b;loss 90;pay a>b 9999 at 1;pay b>a 999 at 2;", 0);
        rounds("a b;loss 90;pay a>b 10 at 1;pay b>a 1 at 2;", 1);
        rounds("a b;loss 90;pay a>b 11 at 1;pay b>a 1 at 2;", 0);
        rounds("a b;loss 0;pay a>b 1 at 1;pay b>a 1 at 2;", 1);
    }

    static void term2_stepByGain() {
        for (int gain : new int[] {0, 1, 10, 50, 89, 90}) {
            String text = "a b;gain " + gain + ";pay a>b 1000 at 1;";
            rounds(text + "pay b>a " + (1000 + 10 * gain) + " at 2;", 1);
            rounds(text + "pay b>a " + (1000 + 10 * gain + 1) + " at 2;", 0);
            rounds(text + "pay b>a 1000 at 2;", 1);
        }
        rounds("a b;gain 90;pay a>b 5263 at 1;pay b>a 9999 at 2;", 1);
        rounds("a b;gain 90;pay a>b 5262 at 1;pay b>a 9998 at 2;", 0);
        rounds("a b;gain 90;pay a>b 5262 at 1;pay b>a 9997 at 2;", 1);
        rounds("a b;gain 90;pay a>b 1 at 1;pay b>a 2 at 2;", 0);
        rounds("a b;gain 90;loss 90;pay a>b 9999 at 1;pay b>a 9999 at 2;", 1);
    }

    static void term2_eachStepButNotTheFirstToTheLast() {
        // 10 by 100 lost at each STEP, more in all
        rounds("a b c d;pay a>b 1000 at 1;pay b>c 900 at 2;pay c>d 810 at 3;pay d>a 729 at 4;", 1);
        rounds("a b c d;pay a>b 1000 at 1;pay b>c 900 at 2;pay c>d 809 at 3;pay d>a 809 at 4;", 0);
        // the last one and the first one are no STEP
        rounds("a b;loss 90;pay a>b 1000 at 1;pay b>a 100 at 2;", 1);
    }

    // ---- ROUND

    static void term2_accountsOfAWayAreUnlike() {
        // through b twice: no ROUND of 4
        rounds("a b c;pay a>b 9 at 1;pay b>c 9 at 2;pay c>b 9 at 3;pay b>a 9 at 4;", 2);
        // through the first one: two ROUNDS of 2, none of 4
        rounds("a b c;pay a>b 9 at 1;pay b>a 9 at 2;pay a>c 9 at 3;pay c>a 9 at 4;", 2);
        // through c twice, by as many as LONGEST: a ROUND of 3, one of 2, none of 5
        rounds("a b c d;longest 5;pay a>b 9 at 1;pay b>c 9 at 2;pay c>d 9 at 3;pay d>c 9 at 4;pay c>a 9 at 5;", 2);
        // a tail that never comes back to the first one
        rounds("a b c d;pay a>b 9 at 1;pay b>c 9 at 2;pay c>d 9 at 3;pay d>b 9 at 4;", 1);
        rounds("a b c d;pay a>b 9 at 1;pay b>c 9 at 2;pay c>d 9 at 3;", 0);
    }

    static void term2_roundOf2ToLongest() {
        for (int size = 2; size <= 6; size++) {
            StringBuilder text = new StringBuilder("a b c d e f;");
            for (int i = 0; i < size; i++) {
                text.append(Edges.pay(i, (i + 1) % size, 9, i));
            }
            rounds(text.toString(), size <= 4 ? 1 : 0);
            for (int longest = 2; longest <= 5; longest++) {
                rounds(text + "longest " + longest + ";", size <= longest ? 1 : 0);
            }
        }
    }

    static void term2_roundWithinTheWindow() {
        for (int window : new int[] {1, 2, 100, 9998}) {
            String text = "a b;window " + window + ";pay a>b 9 at 1;";
            rounds(text + "pay b>a 9 at " + (1 + window) + ";", 1);
            if (window < 9998) {
                rounds(text + "pay b>a 9 at " + (2 + window) + ";", 0);
            }
        }
        rounds("a b;window 0;pay a>b 9 at 1;pay b>a 9 at 2;", 0);
        rounds("a b;window 0;pay a>b 9 at 1;pay b>a 9 at 1;", 0);
        rounds("a b;window 9999;pay a>b 9 at 0;pay b>a 9 at 9999;", 1);
        rounds("a b;window 9998;pay a>b 9 at 0;pay b>a 9 at 9999;", 0);
        // from the first to the last, not from one to the next
        rounds("a b c;window 10;pay a>b 9 at 0;pay b>c 9 at 9;pay c>a 9 at 10;", 1);
        rounds("a b c;window 10;pay a>b 9 at 0;pay b>c 9 at 9;pay c>a 9 at 11;", 0);
    }

    static void term2_roundWithoutTrustedAccounts() {
        String text = "a b c d e;longest 5;pay a>b 9 at 1;pay b>c 9 at 2;pay c>d 9 at 3;pay d>e 9 at 4;pay e>a 9 at 5;";
        rounds(text, 1);
        for (char name = 'a'; name <= 'e'; name++) {
            rounds(text + "trust " + name + ";", 0);
        }
        rounds("f " + text + "trust f;", 1);
        rounds(text + "trust a;trust b;trust c;trust d;trust e;", 0);
    }

    private static void numbered(RoundTrips x, int[]... due) {
        Check.due("many(3)", x.many(3), due.length);
        for (int r = 0; r < due.length; r++) {
            Check.due("round(" + r + ", 0)", x.round(r, 0), due[r].length);
            for (int i = 0; i < due[r].length; i++) {
                Check.due("hop(" + r + ", " + i + ")", x.hop(r, i), due[r][i]);
            }
        }
    }

    static void term2_roundsByTheNumbersOfTheirTransfers() {
        // neither by how many TRANSFERS there are nor by the last TIME
        numbered(Check.loaded("a b c;pay a>b 9 at 1;pay b>c 9 at 2;pay b>a 9 at 3;pay c>a 9 at 4;"), new int[] {0, 1, 3},
            new int[] {0, 2});
        numbered(Check.loaded("a b c;pay a>b 9 at 1;pay a>b 9 at 2;pay b>a 9 at 3;pay b>c 9 at 4;pay c>a 9 at 5;pay b>a 9 at 6;"),
            new int[] {0, 2}, new int[] {0, 3, 4}, new int[] {0, 5}, new int[] {1, 2}, new int[] {1, 3, 4}, new int[] {1, 5});
        // a ROUND that closes first can have the last number
        numbered(Check.loaded("a b;pay a>b 5 at 1;pay b>a 8 at 2;pay a>b 8 at 3;pay b>a 5 at 9;"), new int[] {0, 3},
            new int[] {1, 2});
    }

    static void term2_ringFromTheLeastAccount() {
        String[] names = {"b>c 9 at 1;pay c>d 9 at 2;pay d>b", "c>d 9 at 1;pay d>b 9 at 2;pay b>c", "d>b 9 at 1;pay b>c 9 at 2;pay c>d"};
        for (String way : names) {
            RoundTrips x = Check.loaded("a b c d;pay " + way + " 9 at 3;");
            for (int i = 0; i < 3; i++) {
                Check.due("ring(0, " + i + ") of " + way, x.ring(0, i), i + 1);
            }
        }
        RoundTrips x = Check.loaded("a b c d;pay b>d 9 at 1;pay d>c 9 at 2;pay c>b 9 at 3;");
        int[] other = {1, 3, 2};
        for (int i = 0; i < 3; i++) {
            Check.due("as it goes", x.ring(0, i), other[i]);
        }
        x = Check.loaded("a b c d;pay d>c 9 at 1;pay c>d 9 at 2;pay d>c 9 at 3;");
        Check.due("two ROUNDS", x.many(3), 2);
        Check.due("of one RING", x.many(4), 1);
        x = Check.loaded("a b c;pay a>b 9 at 1;pay b>c 9 at 2;pay c>a 9 at 3;pay a>c 9 at 4;pay c>b 9 at 5;pay b>a 9 at 6;");
        Check.due("the other way round is unlike", x.ring(0, 1) == 1 && x.many(4) == x.many(3), true);
    }

    static void term2_alarmsByTheirFirstRound() {
        RoundTrips x = Check.loaded("a b c;longest 2;pay b>c 9 at 1;pay a>b 9 at 2;pay b>a 9 at 3;pay c>b 9 at 4;pay a>b 9 at 5;"
            + "pay b>a 9 at 6;");
        numbered(x, new int[] {0, 3}, new int[] {1, 2}, new int[] {1, 5}, new int[] {2, 4}, new int[] {4, 5});
        Check.due("many(4)", x.many(4), 2);
        int[] due = {0, 1, 1, 1, 1};
        for (int r = 0; r < due.length; r++) {
            Check.due("round(" + r + ", 4)", x.round(r, 4), due[r]);
        }
        Check.due("ring(0, 0)", x.ring(0, 0), 1);
        Check.due("ring(1, 0)", x.ring(1, 0), 0);
    }

    static void term2_witnessOfTheFewestTimeThenTheFirst() {
        RoundTrips x = Check.loaded("a b;window 3;pay a>b 9 at 1;pay b>a 9 at 4;pay a>b 9 at 11;pay b>a 9 at 13;pay a>b 9 at 21;"
            + "pay b>a 9 at 23;");
        Check.due("many(3)", x.many(3), 3);
        Check.due("of several the first", x.alarm(0, 2), 1);
        x.pay(0, 1, 9, 31);
        x.pay(1, 0, 9, 32);
        Check.due("the fewest", x.alarm(0, 2), 3);
        x.strike(0);
        Check.due("by ROUNDS of now", x.alarm(0, 2), 2);
        // of TIME, not of TRANSFERS' numbers between
        x = Check.loaded("a b;longest 2;window 5;loss 0;pay a>b 5 at 1;pay b>a 5 at 6;pay a>b 7 at 20;pay a>b 9 at 21;"
            + "pay a>b 9 at 22;pay b>a 7 at 24;");
        Check.due("alarm(0, 2)", x.alarm(0, 2), 1);
    }

    static void term2_keptAndPace() {
        RoundTrips x = Check.loaded("a b;window 9999;pay a>b 1 at 0;pay b>a 1 at 9999;");
        Check.due("KEPT 1", x.round(0, 5), bits(1f));
        Check.due("the slowest PACE", x.round(0, 6), bits(2f / 10000f));
        x = Check.loaded("a b c d e;longest 5;pay a>b 9999 at 0;pay b>c 9999 at 1;pay c>d 9999 at 2;pay d>e 9999 at 3;pay e>a 9999 at 4;");
        Check.due("the fastest PACE", x.round(0, 6), bits(49995f / 5f));
        Check.due("KEPT 1", x.round(0, 5), bits(1f));
        x = Check.loaded("a b;pay a>b 9999 at 5;pay b>a 9999 at 6;");
        Check.due("PACE of one TIME more", x.round(0, 6), bits(19998f / 2f));
        x = Check.loaded("a b c d e;longest 5;loss 90;pay a>b 9999 at 0;pay b>c 1000 at 1;pay c>d 100 at 2;pay d>e 10 at 3;"
            + "pay e>a 1 at 4;");
        Check.due("the least KEPT", x.round(0, 5), bits(1f / 9999f));
        x = Check.loaded("a b c d e;longest 5;gain 90;pay a>b 769 at 0;pay b>c 1461 at 1;pay c>d 2775 at 2;pay d>e 5270 at 3;"
            + "pay e>a 9999 at 4;");
        Check.due("much KEPT", x.round(0, 5), bits(9999f / 769f));
        x = Check.loaded("a b c;pay a>b 3 at 0;pay b>a 3 at 2;");
        Check.due("PACE", x.round(0, 6), bits(2f));
    }

    // ---- TO COME

    private static void comes(String text, int from, int to, int time, boolean want) {
        RoundTrips x = Check.loaded(text);
        Check.due("reach of " + text, (x.reach(from, time) >> to & 1) == 1, want);
        Check.due("soonest of " + text, x.soonest(from, to, time, 0) >= 0, want);
        Check.due("most of " + text, x.most(from, to, time) >= 0, want);
    }

    static void term3_toComeNotAheadOfATime() {
        comes("a b;pay a>b 9 at 5;", 0, 1, 5, true);
        comes("a b;pay a>b 9 at 5;", 0, 1, 6, false);
        comes("a b;pay a>b 9 at 5;", 0, 1, 4, true);
        comes("a b;pay a>b 9 at 0;", 0, 1, 0, true);
        comes("a b;pay a>b 9 at 9999;", 0, 1, 9999, true);
        comes("a b c;pay a>b 9 at 5;pay b>c 9 at 9;", 0, 2, 6, false);
        comes("a b c;pay a>b 9 at 5;pay b>c 9 at 9;", 0, 2, 5, true);
    }

    static void term3_toComeByASteps() {
        comes("a b c;pay a>b 1000 at 5;pay b>c 900 at 6;", 0, 2, 0, true);
        comes("a b c;pay a>b 1000 at 5;pay b>c 899 at 6;", 0, 2, 0, false);
        comes("a b c;pay a>b 1000 at 5;pay b>c 1001 at 6;", 0, 2, 0, false);
        comes("a b c;pay a>b 1000 at 5;pay b>c 1000 at 5;", 0, 2, 0, false);
        comes("a b c;pay b>c 1000 at 4;pay a>b 1000 at 5;", 0, 2, 0, false);
        comes("a b;pay b>a 9 at 1;", 0, 1, 0, false);
    }

    static void term3_toComeByAsManyTransfersAsOneLikes() {
        String text = Edges.row() + "longest 2;window 0;";
        for (int to = 1; to < 12; to++) {
            RoundTrips x = Check.loaded(text);
            Check.due("as many TRANSFERS", x.soonest(0, to, 0, 1), to);
            Check.due("the last TIME", x.soonest(0, to, 0, 0), 900 * (to - 1));
            comes(text + "trust a;trust f;trust l;", 0, to, 0, true);
            comes(text, to, 0, 0, false);
        }
    }

    static void term3_toComeThroughUnlikeAccounts() {
        // c to d fits only behind b a second time
        String text = "a b c d;loss 20;pay a>b 100 at 1;pay b>c 80 at 2;pay c>b 64 at 3;pay b>d 64 at 4;";
        comes(text, 0, 3, 0, false);
        comes(text, 2, 3, 0, true);
        // e only behind c a second time
        text = "a b c d e;loss 20;pay a>b 1000 at 1;pay b>c 800 at 2;pay c>d 640 at 3;pay d>c 512 at 4;pay c>e 410 at 5;";
        comes(text, 0, 4, 0, false);
        comes(text, 1, 4, 0, false);
        comes(text, 3, 4, 4, true);
        Check.due("nor by a longer chain", Check.loaded(text).chain(0, 0), 3);
        // back through the first one
        comes("a b c;loss 20;pay a>b 100 at 1;pay b>a 80 at 2;pay a>c 64 at 3;", 0, 2, 3, true);
        comes("a b c;loss 20;pay a>b 100 at 1;pay b>a 80 at 2;pay a>c 64 at 3;", 0, 2, 4, false);
        RoundTrips x = Check.loaded("a b c;loss 20;pay a>b 100 at 1;pay b>a 80 at 2;pay a>c 64 at 3;");
        Check.due("by one TRANSFER", x.soonest(0, 2, 0, 1), 1);
    }

    static void term3_soonestThenFewestThenFirst() {
        // the least last TIME, though by more TRANSFERS
        RoundTrips x = Check.loaded("a b c;pay a>b 9 at 1;pay b>c 9 at 4;pay a>c 9 at 5;");
        Check.due("last TIME", x.soonest(0, 2, 0, 0), 4);
        Check.due("by two", x.soonest(0, 2, 0, 1), 2);
        // as soon: the fewest, though behind by numbers
        x = Check.loaded("a b c;pay a>b 9 at 1;pay b>c 9 at 4;pay a>c 9 at 4;");
        Check.due("by one", x.soonest(0, 2, 0, 1), 1);
        Check.due("the later number", x.step(0, 2, 0, 0), 2);
        // as soon, as many: the first by numbers, at the first and at the last TRANSFER
        x = Check.loaded("a b c d;pay a>c 9 at 1;pay a>b 9 at 1;pay b>d 9 at 4;pay c>d 9 at 4;");
        Check.due("the first", x.step(0, 3, 0, 0), 0);
        Check.due("then the next", x.step(0, 3, 0, 1), 3);
        x = Check.loaded("a b;pay a>b 9 at 4;pay a>b 8 at 4;");
        Check.due("of one TIME the first", x.step(0, 1, 0, 0), 0);
        // a first TRANSFER that comes ahead but goes on no more is none
        x = Check.loaded("a b c;pay a>b 100 at 1;pay a>b 9 at 2;pay b>c 9 at 4;");
        Check.due("the second", x.step(0, 2, 0, 0), 1);
    }

    static void term3_mostOfAny() {
        RoundTrips x = Check.loaded("a b c;loss 90;gain 90;pay a>b 100 at 1;pay b>c 60 at 2;pay b>c 190 at 3;pay b>c 191 at 4;"
            + "pay a>c 150 at 9;");
        Check.due("the greatest last AMOUNT", x.most(0, 2, 0), 190);
        Check.due("from TIME 2 on", x.most(0, 2, 2), 150);
        x = Check.loaded("a b;pay a>b 1 at 0;");
        Check.due("1", x.most(0, 1, 0), 1);
        x.pay(0, 1, 9999, 9999);
        Check.due("9,999", x.most(0, 1, 0), 9999);
    }

    // ---- PARTS, FREEZE, FLOW

    static void term3_partsWithinTheBreadth() {
        RoundTrips x = Check.loaded("a b;pay a>b 9 at 50;pay b>a 9 at 60;");
        Check.due("not later than that", x.part(1, 60, 11), 0);
        Check.due("later than that", x.part(1, 59, 11), 1);
        Check.due("less than the breadth ahead", x.part(1, 60, 10), 1);
        Check.due("one TIME on", x.part(1, 61, 11), 1);
        Check.due("one TIME on, one broader", x.part(1, 61, 12), 0);
        Check.due("breadth 0: none", x.part(1, 60, 0), 1);
        x = Check.loaded("a b;pay a>b 9 at 50;pay b>a 9 at 50;");
        Check.due("breadth 1: of that TIME", x.part(1, 50, 1), 0);
        Check.due("breadth 1: not of the one ahead", x.part(1, 51, 1), 1);
        Check.due("breadth 0: none", x.part(1, 50, 0), 1);
        x = Check.loaded("a b;pay a>b 9 at 0;pay b>a 9 at 9999;");
        Check.due("breadth 9,999: TIME 0 is too far", x.part(1, 9999, 9999), 1);
        x = Check.loaded("a b;pay a>b 9 at 1;pay b>a 9 at 9999;");
        Check.due("breadth 9,999: TIME 1 is not", x.part(1, 9999, 9999), 0);
    }

    static void term3_partsFromEachToTheOther() {
        RoundTrips x = Check.loaded("a b c d e;pay e>d 1 at 3;pay d>c 9999 at 2;pay c>e 5 at 1;pay b>e 5 at 1;trust d;");
        int[] due = {0, 1, 2, 2, 2};
        for (int a = 0; a < 5; a++) {
            Check.due("whatever the order and the AMOUNTS", x.part(a, 9, 9), due[a]);
        }
        StringBuilder text = new StringBuilder(Edges.TWELVE);
        for (int i = 0; i < 12; i++) {
            text.append(Edges.pay(i, (i + 5) % 12, 1, i));
        }
        x = Check.loaded(text.toString());
        for (int a = 0; a < 12; a++) {
            Check.due("all twelve", x.part(a, 11, 12), 0);
            Check.due("all but one TRANSFER", x.part(a, 11, 11), a);
        }
    }

    static void term3_freezeTheFewestThenTheLeastSet() {
        Check.due("no ROUNDS", Check.loaded("a b;pay a>b 9 at 1;").freeze(), 0);
        Check.due("no ACCOUNTS", new RoundTrips().freeze(), 0);
        Check.due("the least of a ROUND", Check.loaded("a b c;pay c>b 9 at 1;pay b>c 9 at 2;").freeze(), 2);
        // {d} is fewer than {a, b}, though a greater SET
        Check.due("the fewest", Check.loaded("a b c d;pay a>d 9 at 1;pay d>a 9 at 2;pay b>d 9 at 3;pay d>b 9 at 4;").freeze(), 8);
        // {a, d} is 9, {b, c} is 6
        Check.due("of as many the least SET", Check.loaded("a b c d;longest 2;loss 0;pay a>b 1 at 1;pay b>a 1 at 2;"
            + "pay b>d 2 at 1;pay d>b 2 at 2;"
            + "pay d>c 3 at 1;pay c>d 3 at 2;pay c>a 4 at 1;pay a>c 4 at 2;").freeze(), 6);
        Check.due("l, of twelve", Check.loaded("a b c d e f g h i j k l;pay l>k 9 at 1;pay k>l 9 at 2;pay l>j 7 at 1;"
            + "pay j>l 7 at 2;").freeze(), 2048);
        // each pair of five has a ROUND: all but one must be frozen
        RoundTrips x = Check.loaded(Edges.eachTwo(0, 4));
        Check.due("ten pairs", x.many(4), 10);
        Check.due("four of five", x.freeze(), 15);
    }

    static void term3_flowIsTheLeastAmount() {
        String[] ways = {"pay a>b 5 at 1;pay b>c 7 at 2;pay c>a 9 at 3;", "pay a>b 9 at 1;pay b>c 5 at 2;pay c>a 7 at 3;",
            "pay a>b 9 at 1;pay b>c 7 at 2;pay c>a 5 at 3;"};
        for (String way : ways) {
            Check.due("FLOW of " + way, Check.loaded("a b c;gain 90;loss 90;" + way).round(0, 3), 5);
        }
        Check.due("9,999", Check.loaded("a b;pay a>b 9999 at 1;pay b>a 9999 at 2;").round(0, 3), 9999);
        Check.due("1", Check.loaded("a b;pay a>b 1 at 1;pay b>a 1 at 2;").round(0, 3), 1);
    }

    // ---- FED, SPRAYED

    static void term3_fedByTheBreadthAtMost() {
        RoundTrips x = Check.loaded("a b c;pay a>b 1 at 0;pay a>b 2 at 5;pay c>b 4 at 9;pay a>b 8 at 10;pay b>c 9 at 10;"
            + "pay a>b 16 at 10;pay a>b 32 at 11;");
        int[] breadths = {0, 1, 4, 5, 9, 10, 9999};
        int[] many = {0, 1, 1, 2, 2, 3, 3};
        int[] much = {0, 4, 4, 6, 6, 7, 7};
        for (int i = 0; i < breadths.length; i++) {
            Check.due("FED, breadth " + breadths[i], x.funnel(4, breadths[i], 0), many[i]);
            Check.due("FED so much, breadth " + breadths[i], x.funnel(4, breadths[i], 1), much[i]);
        }
        x = Check.loaded("a b c;pay a>b 1 at 0;pay b>c 9 at 9999;");
        Check.due("breadth 9,999", x.funnel(1, 9999, 0), 1);
        Check.due("breadth 9,998", x.funnel(1, 9998, 0), 0);
    }

    static void term3_sprayedByTheBreadthAtMost() {
        RoundTrips x = Check.loaded("a b c;pay b>c 64 at 9;pay b>c 32 at 10;pay a>b 9 at 10;pay b>c 16 at 10;pay b>a 1 at 11;"
            + "pay b>c 2 at 15;pay b>a 4 at 20;pay a>b 8 at 21;");
        int[] breadths = {0, 1, 4, 5, 9, 10, 9999};
        int[] many = {0, 1, 1, 2, 2, 3, 3};
        int[] much = {0, 1, 1, 3, 3, 7, 7};
        for (int i = 0; i < breadths.length; i++) {
            Check.due("SPRAYED, breadth " + breadths[i], x.funnel(2, breadths[i], 3), many[i]);
            Check.due("SPRAYED so much, breadth " + breadths[i], x.funnel(2, breadths[i], 4), much[i]);
        }
        x = Check.loaded("a b c;pay a>b 1 at 0;pay b>c 9 at 9999;");
        Check.due("breadth 9,999", x.funnel(0, 9999, 3), 1);
        Check.due("breadth 9,998", x.funnel(0, 9998, 3), 0);
    }

    static void term3_gathersIfTwoOrMore() {
        RoundTrips x = Check.loaded("a b c;pay a>b 100 at 1;pay b>c 100 at 5;");
        Check.due("of one", x.funnel(1, 9, 2), 0);
        x = Check.loaded("a b c;pay a>b 50 at 1;pay a>b 50 at 1;pay b>c 100 at 5;");
        Check.due("of two", x.funnel(2, 9, 2), 1);
        Check.due("of two out of breadth", x.funnel(2, 3, 2), 0);
        Check.due("of two in breadth", x.funnel(2, 4, 2), 1);
        Check.due("of none", x.funnel(0, 9, 2), 0);
        x = Check.loaded("a b c;" + "pay a>b 10 at 1;".repeat(31) + "pay b>c 300 at 5;");
        Check.due("of 31", x.funnel(31, 4, 0), 31);
        Check.due("of 31", x.funnel(31, 4, 1), 310);
        Check.due("of 31", x.funnel(31, 4, 2), 1);
    }

    static void term3_gathersByLossAndGain() {
        for (int loss : new int[] {0, 10, 90}) {
            String text = "a b c;loss " + loss + ";gain 10;pay a>b 600 at 1;pay a>b 400 at 2;pay b>c ";
            Check.due("LOSS " + loss, Check.loaded(text + (1000 - 10 * loss) + " at 5;").funnels(9, false), 1);
            Check.due("LOSS " + loss + " and 1", Check.loaded(text + (1000 - 10 * loss - 1) + " at 5;").funnels(9, false), 0);
            Check.due("GAIN 10", Check.loaded(text + "1100 at 5;").funnels(9, false), 1);
            Check.due("GAIN 10 and 1", Check.loaded(text + "1101 at 5;").funnels(9, false), 0);
        }
    }

    static void term3_scattersIfTwoOrMore() {
        RoundTrips x = Check.loaded("a b c;pay a>b 100 at 1;pay b>c 100 at 5;");
        Check.due("by one", x.funnel(0, 9, 5), 0);
        x = Check.loaded("a b c;pay a>b 100 at 1;pay b>c 50 at 5;pay b>c 50 at 5;");
        Check.due("by two", x.funnel(0, 4, 5), 1);
        Check.due("by two out of breadth", x.funnel(0, 3, 5), 0);
        Check.due("by none", x.funnel(1, 9, 5), 0);
        x = Check.loaded("a b c;pay a>b 310 at 1;" + "pay b>c 10 at 5;".repeat(31));
        Check.due("by 31", x.funnel(0, 4, 3), 31);
        Check.due("by 31", x.funnel(0, 4, 4), 310);
        Check.due("by 31", x.funnel(0, 4, 5), 1);
    }

    static void term3_scattersByLossAndGain() {
        String text = "a b c;gain 10;pay a>b 1000 at 1;pay b>c 500 at 2;pay b>c ";
        int[] rest = {399, 400, 600, 601};
        int[] due = {0, 1, 1, 0};
        for (int i = 0; i < rest.length; i++) {
            Check.due("500 and " + rest[i], Check.loaded(text + rest[i] + " at 3;").funnels(9, true), due[i]);
        }
    }

    // ---- HEAT, SLIDING, NETTING, CLUSTER, HINGE

    static void term3_heat() {
        RoundTrips x = Check.loaded("a b c;");
        Check.due("no TRANSFERS", x.heat(0), 0);
        x = Check.loaded("a b c;pay a>b 9 at 1;pay b>a 9 at 2;pay c>a 9 at 1;");
        Check.due("in one ROUND, of three", x.heat(0), bits(1f / 4f));
        Check.due("in one ROUND, of two", x.heat(1), bits(1f / 3f));
        Check.due("in none, of one", x.heat(2), 0);
        x = Check.loaded("a b;" + "pay a>b 9 at 1;pay b>a 9 at 2;".repeat(16));
        Check.due("256 ROUNDS", x.many(3), 256);
        Check.due("of 32", x.heat(1), bits(256f / 33f));
    }

    static void term3_closesAsTheLast() {
        RoundTrips x = Check.loaded("a b c;pay a>b 9 at 1;pay b>c 9 at 2;pay b>a 9 at 3;pay c>a 9 at 3;");
        int[] due = {0, 0, 1, 1};
        for (int t = 0; t < 4; t++) {
            Check.due("transfer(" + t + ", 5)", x.transfer(t, 5), due[t]);
        }
    }

    static void term3_standsTillWindowBehind() {
        for (int window : new int[] {1, 5, 100, 9000}) {
            RoundTrips x = Check.loaded("a b;window " + window + ";pay a>b 9 at 19;pay b>a 9 at 20;");
            int[] times = {0, 19, 20, 20 + window, 21 + window, 9999};
            int[] due = {0, 0, 1, 1, 0, 0};
            for (int i = 0; i < times.length; i++) {
                Check.due("window " + window + ": standing(" + times[i] + ", 0)", x.standing(times[i], 0), due[i]);
                Check.due("window " + window + ": standing(" + times[i] + ", 1)", x.standing(times[i], 1), due[i]);
            }
        }
        RoundTrips x = Check.loaded("a b;window 9999;pay a>b 9 at 0;pay b>a 9 at 1;");
        Check.due("at 0", x.standing(0, 0), 0);
        Check.due("at 1", x.standing(1, 0), 1);
        Check.due("at 9,999", x.standing(9999, 0), 1);
    }

    static void term3_nettingByTheirNumbers() {
        // 0 2 takes 5, 0 3 the 4 that are left, 1 3 what is left of 3: by another order it would be less
        RoundTrips x = Check.loaded("a b;loss 90;gain 90;pay a>b 9 at 1;pay a>b 8 at 2;pay b>a 5 at 3;pay b>a 7 at 4;");
        int[] left = {0, 5, 0, 0};
        for (int t = 0; t < 4; t++) {
            Check.due("left(" + t + ")", x.left(t), left[t]);
        }
        Check.due("NETTED", x.many(10), 12);
        x = Check.loaded("a b;pay a>b 9 at 1;");
        Check.due("in no ROUND", x.left(0), 9);
        Check.due("NETTED", x.many(10), 0);
        x = Check.loaded("a b;pay a>b 9999 at 1;pay b>a 9999 at 2;");
        Check.due("nothing is LEFT", x.left(0), 0);
        Check.due("NETTED", x.many(10), 9999);
    }

    static void term3_clusterByAccountsShared() {
        RoundTrips x = Check.loaded("a b c d;pay a>b 9 at 1;pay b>a 9 at 2;pay c>d 9 at 1;pay d>c 9 at 2;");
        Check.due("none shared", x.many(9), 2);
        Check.due("each its own", x.cluster(1), 1);
        x = Check.loaded("a b c d;loss 0;pay a>b 9 at 1;pay b>a 9 at 2;pay c>d 8 at 3;pay d>c 8 at 4;pay b>c 7 at 5;pay c>b 7 at 6;");
        for (int a = 0; a < 3; a++) {
            Check.due("and so on", x.cluster(a), 0);
        }
        Check.due("one", x.many(9), 1);
        Check.due("none", new RoundTrips().many(9), 0);
    }

    static void term3_hingeInAllRounds() {
        RoundTrips x = Check.loaded("a b;pay a>b 9 at 1;pay b>a 9 at 2;");
        Check.due("of one ROUND its first", x.hinge(0), 0);
        x = Check.loaded("a b;pay a>b 9 at 1;pay a>b 9 at 2;pay b>a 9 at 3;");
        Check.due("the last one", x.hinge(0), 2);
        x = Check.loaded("a b;pay a>b 9 at 1;pay a>b 9 at 2;pay b>a 9 at 3;pay b>a 9 at 4;");
        Check.refused(x, "none is in all", x.hinge(0), 5);
    }

    public static void main(String[] args) throws ReflectiveOperationException {
        Edges.run(WordsEdgesTest.class, 0, -1);
    }
}
