import java.util.NoSuchElementException;

/**
 * Each promise of the document by itself, with answers reckoned by hand: ordinary inputs, the edges
 * that the document names, wrong inputs. Most runs have two offices: 0 is at work in the hours
 * 9 .. 16 of each day for pay 10 (one person, craft 0), 1 in the hours 21 .. 28 for pay 5 (two
 * people, crafts 0 and 1).
 */
public final class PromisesTest {
    private static final int NONE = FollowTheSun.NONE;
    private static int wrong = 0;
    private static int checks = 0;

    private static void due(String what, long got, long want) {
        checks++;
        if (got != want) {
            wrong++;
            System.out.println(what + " answered " + got + ", due is " + want);
        }
    }

    private static void due(String what, boolean got, boolean want) {
        due(what, got ? 1 : 0, want ? 1 : 0);
    }

    private static void dueRow(String what, FollowTheSun x, long... want) {
        due(what + ": numbers of the row", x.count(8), want.length);
        for (int i = 0; i < want.length && i < x.count(8); i++) {
            due(what + ": row(" + i + ")", x.row(i), want[i]);
        }
    }

    private static boolean throwsOnRow(FollowTheSun x, int i) {
        try {
            x.row(i);
            return false;
        } catch (NoSuchElementException e) {
            return true;
        }
    }

    private static boolean throwsOnOf(FollowTheSun x, int piece, int what) {
        try {
            x.of(piece, what);
            return false;
        } catch (NoSuchElementException e) {
            return true;
        }
    }

    private static boolean throwsOnValue(FollowTheSun x, int piece, int office) {
        try {
            x.value(piece, office);
            return false;
        } catch (NoSuchElementException e) {
            return true;
        }
    }

    private static FollowTheSun two() {
        FollowTheSun x = new FollowTheSun();
        x.office(9, 8, 10, 65);
        x.office(24 * 12 + 9, 8, 5, 131);
        return x;
    }

    /** An office that is always as good as it can be: 16 hours from an hour on, all crafts. */
    private static int big(FollowTheSun x, int from, int pay) {
        return x.office(from, 16, pay, 64 * 9 + 63);
    }

    private static int piece(FollowTheSun x, int craft, int length, int born) {
        return x.piece(6 * 60 + craft, length, 0, born, NONE);
    }

    private static void write(FollowTheSun x, String s) {
        for (int i = 0; i < s.length(); i += 4) {
            int v = 0;
            for (int j = 0; j < 4; j++) {
                v = v << 8 | (i + j < s.length() ? s.charAt(i + j) & 255 : 0);
            }
            x.sign(v);
        }
        x.end(s.length());
    }

    private static int rule(FollowTheSun x, String s) {
        x.end(0);
        write(x, s);
        return x.rule();
    }

    private static void promise1() {
        FollowTheSun x = new FollowTheSun();
        for (int what = 0; what <= 9; what++) {
            due("1: count(" + what + ")", x.count(what), 0);
        }
        due("1: NONE", NONE, -1);
        due("1: open", x.open(0, 0), NONE);
    }

    private static void promise2() {
        FollowTheSun x = new FollowTheSun();
        due("2: first", x.office(0, 1, 1, 65), 0);
        due("2: most of all", x.office(575, 16, 99, 639), 1);
        due("2: times -1", x.office(-1, 8, 1, 65), NONE);
        due("2: times 576", x.office(576, 8, 1, 65), NONE);
        due("2: length 0", x.office(9, 0, 1, 65), NONE);
        due("2: length 17", x.office(9, 17, 1, 65), NONE);
        due("2: pay 0", x.office(9, 8, 0, 65), NONE);
        due("2: pay 100", x.office(9, 8, 100, 65), NONE);
        due("2: no people", x.office(9, 8, 1, 63), NONE);
        due("2: no crafts", x.office(9, 8, 1, 128), NONE);
        due("2: ten people", x.office(9, 8, 1, 641), NONE);
        due("2: pc below 0", x.office(9, 8, 1, -1), NONE);
        due("2: how many", x.count(0), 2);
        for (int i = 2; i < 6; i++) {
            due("2: number", x.office(9, 8, 1, 65), i);
        }
        due("2: a seventh", x.office(9, 8, 1, 65), NONE);
        due("2: still six", x.count(0), 6);
        // Zone 23, from 23: at work from hour 0 on, and till hour 15.
        due("2: open(1, 0)", x.open(1, 0), 1);
        due("2: open(1, 15)", x.open(1, 15), 1);
        due("2: open(1, 16)", x.open(1, 16), 0);
        due("2: open(1, 24)", x.open(1, 24), 1);
    }

    private static void promise3() {
        FollowTheSun x = two();
        due("3: put forward", x.clock(0, 10, 1), true);
        due("3: ahead of it", x.open(0, 9), 1);
        due("3: closes sooner", x.open(0, 16), 0);
        due("3: opens sooner", x.open(0, 32), 1);
        due("3: put back", x.clock(0, 10, -1), true);
        due("3: closes later", x.open(0, 17), 1);
        due("3: opens later", x.open(0, 33), 0);
        due("3: opens then", x.open(0, 34), 1);
        due("3: not put", x.clock(0, 2399, 0), true);
        due("3: as at first", x.open(0, 33), 1);
        due("3: closes as at first", x.open(0, 17), 0);
        due("3: local 8 is left out", x.clock(0, 9, 1), true);
        due("3: it is in the stint", x.open(0, 9), 1);
        due("3: office", x.clock(2, 0, 1), false);
        due("3: office below 0", x.clock(-1, 0, 1), false);
        due("3: hour", x.clock(0, 2400, 1), false);
        due("3: hour below 0", x.clock(0, -1, 1), false);
        due("3: by", x.clock(0, 0, 2), false);
        due("3: by below -1", x.clock(0, 0, -2), false);
        FollowTheSun y = new FollowTheSun();
        // Local is -1 at hour 0: the stint began at local -1, on day -1, which can't be a feast.
        y.office(23, 2, 1, 65);
        y.clock(0, 0, -1);
        y.feast(0, 0, true);
        due("3: local below 0", y.open(0, 0), 1);
        due("3: local 0", y.open(0, 1), 1);
        due("3: local 1", y.open(0, 2), 0);
        due("3: the feast", y.open(0, 24), 0);
    }

    private static void promise4() {
        FollowTheSun x = two();
        due("4: feast", x.feast(0, 1, true), true);
        due("4: day 0", x.open(0, 9), 1);
        due("4: day 1", x.open(0, 33), 0);
        due("4: day 2", x.open(0, 57), 1);
        due("4: no feast", x.feast(0, 1, false), true);
        due("4: day 1 again", x.open(0, 33), 1);
        // The stint of office 1 at hour 21 begins at local 33: day 1; that at hour 0 on day 0.
        due("4: feast of 1", x.feast(1, 1, true), true);
        due("4: hour 0", x.open(1, 0), 1);
        due("4: hour 21", x.open(1, 21), 0);
        due("4: hour 28", x.open(1, 28), 0);
        due("4: hour 45", x.open(1, 45), 1);
        due("4: the other", x.open(0, 33), 1);
        due("4: last day", x.feast(0, 99, true), true);
        due("4: its hour", x.open(0, 2385), 0);
        due("4: day 100", x.feast(0, 100, true), false);
        due("4: day -1", x.feast(0, -1, true), false);
        due("4: office", x.feast(2, 0, true), false);
        FollowTheSun y = new FollowTheSun();
        // A stint over midnight has the day of its begin.
        y.office(20, 8, 1, 65);
        y.feast(0, 0, true);
        due("4: over midnight, on it", y.open(0, 23), 0);
        due("4: over midnight, behind it", y.open(0, 27), 0);
        due("4: the next one", y.open(0, 44), 1);
    }

    private static void promise5() {
        FollowTheSun x = two();
        due("5: first", x.know(0, 1, 9), 0);
        due("5: both ways", x.know(1, 0, 4), 9);
        due("5: again", x.know(0, 1, 0), 4);
        due("5: itself", x.know(1, 1, 4), NONE);
        due("5: 10", x.know(0, 1, 10), NONE);
        due("5: -1", x.know(0, 1, -1), NONE);
        due("5: office", x.know(0, 2, 1), NONE);
        due("5: office below 0", x.know(-1, 0, 1), NONE);
        due("5: nothing changed", x.know(0, 1, 1), 0);
    }

    private static void promise6() {
        FollowTheSun x = two();
        x.office(9, 8, 10, 65);
        x.know(1, 2, 7);
        // 2, 4, 6: its own entry is left out.
        due("6: ints", x.sheet(0, 2, 3, 2, 2), 10);
        due("6: both ways", x.know(1, 0, 4), 4);
        due("6: the others stay", x.know(1, 2, 7), 7);
        due("6: too few entries", x.sheet(0, 2, 2, 0, 1), 7);
        due("6: more than offices", x.sheet(2, 2, 6, 1, 0), 2);
        due("6: no entries", x.sheet(2, 2, 0, 9, 0), 2);
        due("6: bytes", x.sheet(0, 0, 3, 258, 256), 4);
        due("6: bytes with their sign", x.sheet(0, 0, 3, 255, 0), 0);
        due("6: shorts", x.sheet(0, 1, 3, 65536 + 5, 0), 10);
        due("6: shorts with their sign", x.sheet(0, 1, 3, 40000, 0), 0);
        due("6: ints above 9", x.sheet(0, 2, 3, 40000, 0), 18);
        due("6: missing", x.sheet(0, 3, 3, 9, 9), 0);
        due("6: missing, n below 0", x.sheet(1, 3, -1, 9, 9), 0);
        due("6: n below 0", x.sheet(1, 2, -1, 9, 9), -2);
        due("6: nothing changed", x.know(0, 1, 0), 0);
        due("6: n above 6", x.sheet(1, 2, 7, 1, 1), NONE);
        due("6: kind 4", x.sheet(1, 4, 1, 1, 1), NONE);
        due("6: kind 4 goes ahead of n", x.sheet(1, 4, -1, 1, 1), NONE);
        due("6: office", x.sheet(3, 0, -1, 1, 1), NONE);
        due("6: ints come round", x.sheet(0, 2, 3, Integer.MAX_VALUE, 1), 0);
    }

    private static void promise7() {
        FollowTheSun x = two();
        due("7: LOSE", x.set(0, 20), 4);
        due("7: it is", x.loses(0, 1, 0), 22);
        due("7: LOSE 0", x.set(0, 0), 20);
        due("7: it is 0", x.loses(0, 1, 0), 2);
        due("7: MISS", x.set(1, 100), 10);
        due("7: MISS 0", x.set(1, 0), 100);
        due("7: LOSE 21", x.set(0, 21), NONE);
        due("7: LOSE -1", x.set(0, -1), NONE);
        due("7: MISS 101", x.set(1, 101), NONE);
        due("7: MISS -1", x.set(1, -1), NONE);
        due("7: what", x.set(2, 1), NONE);
        due("7: what below 0", x.set(-1, 1), NONE);
        due("7: nothing changed", x.set(0, 3), 0);
    }

    private static void promise8() {
        FollowTheSun x = two();
        due("8: ahead", x.open(0, 8), 0);
        due("8: first", x.open(0, 9), 1);
        due("8: last", x.open(0, 16), 1);
        due("8: behind", x.open(0, 17), 0);
        due("8: a stint begun ahead of hour 0", x.open(1, 4), 1);
        due("8: its end", x.open(1, 5), 0);
        due("8: the last hour", x.open(1, 2399), 1);
        due("8: 2400", x.open(0, 2400), NONE);
        due("8: -1", x.open(0, -1), NONE);
        due("8: office", x.open(2, 9), NONE);
        due("8: office below 0", x.open(-1, 9), NONE);
    }

    private static void promise9() {
        FollowTheSun x = two();
        x.office(24 * 20 + 9, 8, 1, 65);
        // Office 2 is at work in the hours 13 .. 20.
        due("9: none", x.overlap(0, 1, 0), 0);
        due("9: four", x.overlap(0, 2, 0), 4);
        due("9: the other way", x.overlap(2, 0, 0), 4);
        due("9: from within", x.overlap(0, 2, 15), 4);
        due("9: itself", x.overlap(1, 1, 7), 8);
        x.feast(0, 1, true);
        due("9: a feast ahead", x.overlap(0, 2, 15), 2);
        due("9: none by a feast", x.overlap(0, 2, 17), 0);
        due("9: hour", x.overlap(0, 1, 2400), NONE);
        due("9: office", x.overlap(0, 3, 0), NONE);
        due("9: office below 0", x.overlap(-1, 0, 0), NONE);
        // From the last hour on all 24 are looked at, also those behind 2399.
        due("9: the last hour", x.overlap(2, 2, 2399), 8);
    }

    private static void promise10() {
        FollowTheSun x = two();
        x.office(24 * 20 + 9, 8, 1, 65);
        due("10: apart", x.loses(0, 1, 0), 6);
        due("10: not apart", x.loses(0, 2, 0), 4);
        x.know(0, 1, 3);
        due("10: known", x.loses(0, 1, 0), 3);
        x.know(0, 1, 9);
        due("10: not below 0, and apart", x.loses(1, 0, 0), 2);
        due("10: itself", x.loses(1, 1, 0), 0);
        x.feast(0, 1, true);
        due("10: apart by a feast", x.loses(0, 2, 17), 6);
        due("10: not yet", x.loses(0, 2, 16), 4);
        due("10: hour", x.loses(0, 1, -1), NONE);
        due("10: office", x.loses(3, 1, 0), NONE);
    }

    private static void promise11() {
        FollowTheSun x = two();
        due("11: no offices", new FollowTheSun().dark(0, 0), NONE);
        due("11: craft 0", x.dark(0, 6), 8);
        dueRow("11: craft 0", x, 6, 1, 9);
        due("11: craft 1", x.dark(1, 22), 16);
        dueRow("11: craft 1", x, 29, 1, 22);
        due("11: craft 2", x.dark(2, 22), 24);
        dueRow("11: craft 2", x, 22, 0, 22);
        big(x, 0, 1);
        due("11: four are dark", x.dark(0, 0), 4);
        dueRow("11: the most", x, 17, 2, 0);
        big(x, 10, 1);
        due("11: none", x.dark(0, 9), 0);
        dueRow("11: none", x, NONE, 3, 10);
        due("11: craft", x.dark(6, 0), NONE);
        due("11: craft below 0", x.dark(-1, 0), NONE);
        due("11: hour", x.dark(0, 2400), NONE);
        dueRow("11: refused ones tell nothing", x, NONE, 3, 10);
    }

    private static void promise12() {
        FollowTheSun x = two();
        due("12: first", x.piece(6, 1, 0, 0, NONE), 0);
        due("12: most of all", x.piece(365, 60, 1, 1, 1), 1);
        due("12: after itself", x.piece(6, 1, 4, 0, NONE), NONE);
        due("12: after below 0", x.piece(6, 1, -1, 0, NONE), NONE);
        due("12: every 0", x.piece(5, 1, 0, 0, NONE), NONE);
        due("12: every 61", x.piece(366, 1, 0, 0, NONE), NONE);
        due("12: below 0", x.piece(-6, 1, 0, 0, NONE), NONE);
        due("12: length 0", x.piece(6, 0, 0, 0, NONE), NONE);
        due("12: length 61", x.piece(6, 61, 0, 0, NONE), NONE);
        due("12: born", x.piece(6, 1, 0, 2, NONE), NONE);
        due("12: born nowhere", x.piece(6, 1, 0, NONE, NONE), NONE);
        due("12: asks", x.piece(6, 1, 0, 0, 2), NONE);
        due("12: asks -2", x.piece(6, 1, 0, 0, -2), NONE);
        due("12: how many", x.count(1), 2);
        due("12: left", x.of(1, 1), 60);
        due("12: where", x.of(1, 0), 1);
        for (int i = 2; i < 8; i++) {
            due("12: number", x.piece(6, 1, (1 << i) - 1, 0, NONE), i);
        }
        due("12: a ninth", x.piece(6, 1, 0, 0, NONE), NONE);
        FollowTheSun y = two();
        piece(y, 0, 1, 0);
        y.begin(9);
        y.go(1);
        due("12: told on the way", y.piece(6, 3, 1, 0, NONE), 1);
        due("12: it is ready", y.of(1, 8), 1);
        due("12: the other is done", y.count(3), 1);
    }

    private static void promise13() {
        FollowTheSun x = new FollowTheSun();
        due("13: four", x.sign('k' << 24 | '+' << 16 | '1' << 8 | '2'), 4);
        due("13: the order", x.rule(), 0);
        due("13: the highest byte", x.sign(0xFF000000), 4);
        due("13: it stands first", x.rule(), -1);
        for (int i = 1; i <= 15; i++) {
            due("13: more", x.sign(0x6B2B6B2B), 4 * i);
        }
        due("13: 60", x.count(9), 60);
        due("13: more than 60", x.sign(0), NONE);
        due("13: still 60", x.count(9), 60);
        due("13: 57", x.end(57), true);
        due("13: not by one", x.sign(0), NONE);
        due("13: 56", x.end(56), true);
        due("13: then it goes", x.sign(0), 60);
    }

    private static void promise14() {
        FollowTheSun x = new FollowTheSun();
        due("14: none of none", x.end(0), true);
        due("14: one of none", x.end(1), false);
        write(x, "k+l");
        due("14: as it is", x.end(3), true);
        due("14: more", x.end(4), false);
        due("14: below 0", x.end(-1), false);
        due("14: nothing changed", x.count(9), 3);
        due("14: one", x.end(1), true);
        due("14: it is one", x.count(9), 1);
        due("14: the first", x.rule(), 0);
    }

    private static void promise15() {
        FollowTheSun x = two();
        String[] good = {"k", "0", "999", "000", "(k)", "!!!k", "--k", "-!-3", "k--l", "k*-l", "k<l&k>l|k=l",
            "(k<l)<(k=l)", "(((((k)))))", "(k)+(l)", "klowrcsbqpfn".substring(11), "1<2|3<4", "k<l+2*3"};
        for (String s : good) {
            due("15: " + s, rule(x, s), 0);
        }
        String[] bad = {"x", "K", " k", "k ", "kl", "k1", "1k", "1234", "k+", "(", "(k", "k)", "()", "k!", "k!l",
            "*k", "+k", "k<l<2", "k<l=2", "k<l+2>3", "((((((k))))))", "k||l", "k(l)", "!", "~k", "k~l", "(k<l=2)"};
        int[] place = {0, 0, 0, 1, 1, 1, 1, 3, 2, 1, 2, 1, 1, 1, 1,
            0, 0, 3, 3, 5, 5, 2, 1, 1, 0, 1, 4};
        rule(x, "n*7");
        piece(x, 0, 9, 0);
        for (int i = 0; i < bad.length; i++) {
            due("15: " + bad[i], rule(x, bad[i]), -1 - place[i]);
            due("15: the text is empty", x.count(9), 0);
            due("15: the rule is as it was", x.value(0, 1), 7);
        }
        String forty = "k+k+k+k+k+k+k+k+k+k+k+k+k+k+k+k+k+k+k+1";
        due("15: 39", rule(x, forty), 0);
        due("15: 40", rule(x, forty + "2"), 0);
        due("15: 41", rule(x, forty + "23"), -41);
        due("15: 41, the first 40 could go on", rule(x, forty + "+k"), -41);
        due("15: 41, whatever it is", rule(x, forty + "2 "), -41);
        due("15: 40, too early", rule(x, forty + "+"), -41);
        due("15: 41, wrong ahead", rule(x, forty + " 2"), -40);
        due("15: empty", rule(x, ""), 0);
        due("15: none", throwsOnValue(x, 0, 0), true);
    }

    private static int valueOf(FollowTheSun x, String s, int office) {
        due("16: " + s, rule(x, s), 0);
        return x.value(0, office);
    }

    private static void promise16() {
        FollowTheSun x = two();
        x.piece(6 * 60, 12, 0, 0, 1);
        due("16: no rule", throwsOnValue(x, 0, 0), true);
        x.know(0, 1, 3);
        x.begin(19);
        String signs = "klowrcsbqpfn";
        // From hour 20 on: office 0 opens at 33, office 1 at 21.
        int[] of0 = {9, 0, 8, 0, 13, 1, 1, 1, 0, 10, 12, 0};
        int[] of1 = {3, 3, 0, 0, 1, 1, 0, 0, 1, 5, 12, 1};
        for (int i = 0; i < 12; i++) {
            due("16: sign for 0", valueOf(x, signs.substring(i, i + 1), 0), of0[i]);
            due("16: sign for 1", valueOf(x, signs.substring(i, i + 1), 1), of1[i]);
        }
        x.begin(20);
        due("16: w", valueOf(x, "w", 1), 1);
        due("16: r", valueOf(x, "r", 1), 0);
        for (int day = 2; day <= 5; day++) {
            x.feast(1, day, true);
        }
        x.begin(28);
        // Its next stint begins at hour 141, on day 6; 43 from hour 98 on.
        due("16: r 99", valueOf(x, "r", 1), 99);
        x.begin(41);
        due("16: r 99 still", valueOf(x, "r", 1), 99);
        x.begin(42);
        due("16: r 98", valueOf(x, "r", 1), 98);
        due("16: craft", throwsOnValue(x, 0, 2), true);
        due("16: office below 0", throwsOnValue(x, 0, -1), true);
        due("16: piece", throwsOnValue(x, 1, 0), true);
        due("16: piece below 0", throwsOnValue(x, -1, 0), true);
        due("16: from the left", valueOf(x, "9-3-2", 0), 4);
        due("16: * binds more", valueOf(x, "2+3*4", 0), 14);
        due("16: brackets", valueOf(x, "(2+3)*4", 0), 20);
        due("16: + binds more than <", valueOf(x, "1<1+1", 0), 1);
        due("16: < binds more than &", valueOf(x, "1&2>1", 0), 1);
        due("16: & binds more than |", valueOf(x, "1|0&0", 0), 1);
        due("16: | gives 1", valueOf(x, "0|7", 0), 1);
        due("16: & gives 1", valueOf(x, "5&7", 0), 1);
        due("16: & gives 0", valueOf(x, "5&0", 0), 0);
        due("16: ! gives 0", valueOf(x, "!7", 0), 0);
        due("16: ! gives 1", valueOf(x, "!0", 0), 1);
        due("16: ! binds more than *", valueOf(x, "!0*5", 0), 5);
        due("16: - ahead", valueOf(x, "-2*3", 0), -6);
        due("16: - ahead behind -", valueOf(x, "2--3", 0), 5);
        due("16: >", valueOf(x, "2>3", 0), 0);
        due("16: =", valueOf(x, "3=3", 0), 1);
        due("16: as ints", valueOf(x, "999*999*999*999", 0), 999 * 999 * 999 * 999);
        x.hand(0, 1);
        due("16: from where it is", valueOf(x, "s", 1), 1);
        due("16: born stays", valueOf(x, "b", 0), 1);
        x.begin(2399);
        due("16: the last hour", valueOf(x, "r", 0), 9);
    }

    private static void promise17() {
        FollowTheSun x = two();
        x.piece(6 * 2, 3, 0, 0, 0);
        rule(x, "n");
        x.begin(9);
        x.go(2);
        due("17: it waits", x.of(0, 3), 1);
        x.hand(0, 1);
        due("17: begin", x.begin(33), true);
        int[] first = {0, 3, 0, 0, NONE, 0, 0, 0, 1};
        for (int what = 0; what <= 8; what++) {
            due("17: of(0, " + what + ")", x.of(0, what), first[what]);
        }
        due("17: now", x.count(2), 33);
        due("17: handings", x.count(5), 0);
        due("17: lost", x.count(6), 0);
        due("17: pay", x.count(7), 0);
        due("17: none kept", x.riskiest(), -2);
        due("17: 2400", x.begin(2400), false);
        due("17: -1", x.begin(-1), false);
        due("17: nothing changed", x.count(2), 33);
        due("17: the rule stays", x.value(0, 1), 1);
        due("17: 2399", x.begin(2399), true);
        due("17: 0", x.begin(0), true);
    }

    private static void promise18() {
        FollowTheSun x = two();
        due("18: none", x.go(0), 0);
        due("18: 500", x.go(500), 500);
        due("18: 501", x.go(501), NONE);
        due("18: -1", x.go(-1), NONE);
        x.begin(2390);
        due("18: to 2399", x.go(500), 2399);
        due("18: no further", x.go(1), 2399);
        people();
        asking();
        handedOn();
    }

    private static void people() {
        FollowTheSun x = two();
        int a = piece(x, 0, 2, 0);
        int b = piece(x, 0, 2, 0);
        int c = x.piece(6 * 60, 2, 1, 1, NONE);
        int d = piece(x, 1, 2, 0);
        x.begin(9);
        x.go(1);
        due("18: the first is worked", x.of(a, 1), 1);
        due("18: the second is not, one person", x.of(b, 1), 2);
        due("18: a piece after is not ready", x.of(c, 8), 0);
        due("18: no craft", x.of(d, 1), 2);
        x.go(1);
        due("18: done by", x.of(a, 4), 11);
        due("18: now it is ready", x.of(c, 8), 1);
        x.go(2);
        due("18: the second done by", x.of(b, 4), 13);
        due("18: pay", x.count(7), 40);
        x.go(11);
        due("18: at 24 it is done", x.of(c, 4), 23);
        due("18: pay of the other", x.count(7), 50);
        due("18: bits", x.count(3), 7);
    }

    private static void asking() {
        FollowTheSun x = two();
        x.office(24 * 20 + 9, 8, 1, 65);
        // It asks office 2, at work in the hours 13 .. 20, behind each 3 hours.
        int a = x.piece(6 * 3, 8, 0, 0, 2);
        x.begin(9);
        x.go(3);
        due("18: it waits", x.of(a, 3), 1);
        due("18: since", x.of(a, 2), 0);
        x.go(1);
        due("18: it waits still", x.of(a, 3), 1);
        x.go(1);
        due("18: both are at work", x.of(a, 3), 0);
        due("18: not worked in that hour", x.of(a, 5), 3);
        x.go(3);
        due("18: it waits again", x.of(a, 3), 1);
        due("18: left", x.of(a, 1), 2);
        x.go(24 + 13 - 17);
        due("18: it waits till 37", x.of(a, 3), 1);
        x.go(1);
        due("18: the answer", x.of(a, 3), 0);
        x.go(2);
        due("18: done by 40", x.of(a, 4), 40);
        due("18: since at the end", x.of(a, 2), 2);
        // Done with its last hour, it asks no more.
        int b = x.piece(6 * 3, 3, 0, 0, 2);
        x.begin(9);
        x.go(8);
        due("18: b comes behind a", x.of(b, 5), 2);
    }

    private static void handedOn() {
        FollowTheSun x = two();
        int a = piece(x, 0, 10, 0);
        int b = piece(x, 1, 10, 0);
        int c = x.piece(6 * 60, 1, 1, 0, NONE);
        rule(x, "n");
        x.begin(9);
        x.go(7);
        due("18: not yet", x.of(a, 0), 0);
        x.go(1);
        due("18: handed", x.of(a, 0), 1);
        due("18: left has grown", x.of(a, 1), 8);
        due("18: lost", x.of(a, 7), 6);
        due("18: also one that was not worked", x.of(b, 0), 1);
        due("18: not one that was not ready", x.of(c, 0), 0);
        due("18: handings", x.count(5), 2);
        due("18: hours lost", x.count(6), 12);
        x.go(12);
        due("18: it stays at its own", x.of(a, 6), 1);
        rule(x, "");
        x.begin(9);
        x.go(8);
        due("18: without a rule it stays", x.of(a, 0), 0);
        rule(x, "7");
        x.go(24);
        due("18: of equal ones the first", x.of(a, 0), 0);
        x.begin(21);
        x.hand(b, 1);
        x.go(8);
        due("18: also if its own is not the first", x.of(b, 0), 0);
        // Lost from the next hour on: office 2 is at work in the hours 13 .. 20, not on its day 2.
        FollowTheSun y = two();
        y.office(24 * 20 + 9, 8, 1, 65);
        y.feast(2, 2, true);
        piece(y, 0, 20, 0);
        rule(y, "n");
        y.begin(9);
        y.go(8);
        due("18: overlap from 17 on is none in 17 .. 40", y.of(0, 7), 6);
    }

    private static void promise19() {
        FollowTheSun x = two();
        x.piece(6 * 4, 9, 0, 0, 1);
        rule(x, "n");
        x.begin(9);
        x.go(3);
        int[] then = {0, 6, 3, 0, NONE, 3, 0, 0, 1};
        for (int what = 0; what <= 8; what++) {
            due("19: at 12, of(0, " + what + ")", x.of(0, what), then[what]);
        }
        x.go(5);
        int[] later = {1, 11, 0, 1, NONE, 4, 1, 6, 1};
        for (int what = 0; what <= 8; what++) {
            due("19: at 17, of(0, " + what + ")", x.of(0, what), later[what]);
        }
        x.begin(21);
        x.hand(0, 1);
        x.go(60);
        due("19: done", x.of(0, 1), 0);
        due("19: not ready", x.of(0, 8), 0);
        due("19: what 9", throwsOnOf(x, 0, 9), true);
        due("19: what -1", throwsOnOf(x, 0, -1), true);
        due("19: piece", throwsOnOf(x, 1, 0), true);
        due("19: piece below 0", throwsOnOf(x, -1, 0), true);
    }

    private static void promise20() {
        FollowTheSun x = two();
        x.office(24 * 20 + 9, 8, 1, 65);
        piece(x, 0, 3, 0);
        x.piece(6, 1, 1, 0, NONE);
        x.know(0, 1, 1);
        x.begin(9);
        due("20: apart", x.hand(0, 1), 5);
        due("20: where", x.of(0, 0), 1);
        due("20: left", x.of(0, 1), 8);
        due("20: handings", x.of(0, 6), 1);
        due("20: lost", x.of(0, 7), 5);
        due("20: its own", x.hand(0, 1), NONE);
        due("20: office", x.hand(0, 3), NONE);
        due("20: office below 0", x.hand(0, -1), NONE);
        due("20: piece", x.hand(2, 0), NONE);
        due("20: one that is not ready", x.hand(1, 2), 4);
        x.feast(2, 2, true);
        x.begin(16);
        due("20: from now on", x.hand(0, 2), 4);
        x.begin(17);
        due("20: from now on, apart", x.hand(0, 2), 6);
        x.begin(9);
        x.go(3);
        due("20: done", x.of(0, 4), 12);
        due("20: not one that is done", x.hand(0, 1), NONE);
    }

    private static void promise21() {
        FollowTheSun x = two();
        due("21: no pieces", x.ends(), NONE);
        piece(x, 0, 10, 0);
        x.piece(6 * 60 + 1, 4, 1, 1, NONE);
        x.begin(9);
        due("21: stays", x.ends(), 49);
        dueRow("21: stays", x, 35, 49, 0, 0, 120);
        rule(x, "n");
        due("21: by the rule", x.ends(), 49);
        dueRow("21: by the rule", x, 29, 49, 1, 6, 140);
        due("21: nothing changed", x.count(2) * 100 + x.of(0, 1), 910);
        x.go(20);
        due("21: from now on", x.ends(), 49);
        dueRow("21: from now on", x, 29, 49, 0, 0, 20);
        x.go(30);
        due("21: now", x.ends(), 59);
        dueRow("21: now", x, 29, 49, 0, 0, 0);
        piece(x, 5, 1, 0);
        due("21: never", x.ends(), -2);
        dueRow("21: that tells nothing", x, 29, 49, 0, 0, 0);
        FollowTheSun y = new FollowTheSun();
        y.office(0, 16, 1, 65);
        piece(y, 0, 15, 0);
        y.begin(2376);
        due("21: 15 hours from 2376 on", y.ends(), 2391);
        FollowTheSun z = new FollowTheSun();
        z.office(14, 10, 1, 65);
        piece(z, 0, 9, 0);
        z.begin(2380);
        due("21: by 2399", z.ends(), 2399);
        piece(z, 0, 1, 0);
        due("21: not by 2399", z.ends(), -2);
    }

    private static void promise22() {
        FollowTheSun x = two();
        due("22: no pieces", x.judge(), NONE);
        piece(x, 0, 10, 0);
        x.begin(9);
        due("22: it lies while 1 is at work", x.judge(), 21);
        dueRow("22: it lies", x, 0, 1);
        due("22: nothing changed", x.count(2), 9);
        rule(x, "n");
        due("22: handed on", x.judge(), -2);
        rule(x, "");
        x.begin(22);
        due("22: from now on", x.judge(), 22);
        // Two people at office 1, and two pieces there: none is left for the piece at office 0.
        piece(x, 0, 8, 1);
        piece(x, 0, 7, 1);
        x.begin(21);
        due("22: people are left in the last hour alone", x.judge(), 28);
        dueRow("22: people", x, 0, 1);
        FollowTheSun y = two();
        y.piece(6, 2, 0, 0, 1);
        y.begin(9);
        due("22: one that waits is not looked at", y.judge(), -2);
        FollowTheSun z = two();
        piece(z, 0, 9, 0);
        piece(z, 0, 9, 0);
        z.office(9, 8, 1, 65);
        z.office(9, 8, 1, 65);
        z.begin(9);
        due("22: the first piece and office", z.judge(), 9);
        dueRow("22: the first", z, 1, 2);
        z.begin(9);
        z.go(500);
        due("22: all are done", z.judge(), -2);
    }

    private static void promise23() {
        FollowTheSun x = two();
        piece(x, 0, 10, 0);
        x.piece(6, 10, 1, 0, 1);
        due("23: not handed", x.one(0, 9, 0), 35);
        dueRow("23: not handed", x, 0);
        due("23: once", x.one(0, 9, 1), 29);
        dueRow("23: once", x, 1, 1);
        due("23: more do not help", x.one(0, 9, 3), 29);
        dueRow("23: more do not help", x, 1, 1);
        due("23: after, asks left out", x.one(1, 9, 1), 29);
        x.begin(9);
        x.go(8);
        due("23: at a whole", x.one(0, 9, 0), 35);
        x.set(0, 5);
        due("23: no sooner, so none", x.one(0, 9, 3), 35);
        dueRow("23: none", x, 0);
        x.set(0, 0);
        // 8 hours, handed for 2, 8 hours, handed back for 2, 8 hours.
        x.piece(6, 20, 0, 0, NONE);
        due("23: also back", x.one(2, 9, 2), 41);
        dueRow("23: also back", x, 2, 1, 0);
        due("23: k 4", x.one(0, 9, 4), NONE);
        due("23: k -1", x.one(0, 9, -1), NONE);
        due("23: piece", x.one(3, 9, 0), NONE);
        due("23: hour", x.one(0, 2400, 0), NONE);
        due("23: too late", x.one(0, 2395, 3), -2);
        dueRow("23: that tells nothing", x, 2, 1, 0);
        FollowTheSun y = two();
        piece(y, 1, 1, 0);
        due("23: no craft", y.one(0, 9, 0), -2);
        due("23: handed behind the first hour", y.one(0, 20, 1), 4 + 24);
        leastRow();
    }

    private static void leastRow() {
        FollowTheSun x = new FollowTheSun();
        x.office(9, 8, 1, 65);
        x.office(17, 8, 1, 65);
        x.office(17, 8, 1, 65);
        piece(x, 0, 20, 0);
        x.set(0, 0);
        // Offices 1 and 2 are alike: 8 hours, 2 lost, 8 hours, 2 lost, and 8 hours from 33 on.
        due("23: of equal ones", x.one(0, 9, 3), 41);
        dueRow("23: the least row", x, 2, 1, 0);
        x.feast(1, 0, true);
        due("23: the other one", x.one(0, 9, 3), 41);
        dueRow("23: the other one", x, 2, 2, 0);
        FollowTheSun y = new FollowTheSun();
        for (int i = 0; i < 3; i++) {
            y.office(0, 16, 1, i == 2 ? 65 : 66);
        }
        piece(y, 0, 1, 0);
        y.set(0, 9);
        y.know(0, 1, 9);
        y.know(1, 2, 9);
        // To 2 at once 9 are lost; over 1 none, but a piece is handed once behind an hour alone.
        due("23: two handings", y.one(0, 0, 2), 3);
        dueRow("23: two handings", y, 2, 1, 2);
        due("23: one handing", y.one(0, 0, 1), 11);
        FollowTheSun z = meetingOnce();
        due("23: lost from the next hour on", z.one(0, 15, 1), 17);
        due("23: an hour later", z.one(0, 16, 1), 20);
    }

    /** Two offices that know all of one another and are both at work in hour 16, then in 64. */
    private static FollowTheSun meetingOnce() {
        FollowTheSun x = new FollowTheSun();
        x.office(9, 8, 1, 66);
        x.office(16, 8, 1, 65);
        x.know(0, 1, 9);
        x.feast(1, 1, true);
        piece(x, 0, 1, 0);
        return x;
    }

    private static void promise24() {
        FollowTheSun x = two();
        piece(x, 0, 10, 0);
        due("24: not handed", x.cheap(0, 9, 0, 100), 100);
        dueRow("24: not handed", x, 0);
        due("24: handed at once", x.cheap(0, 9, 2, 100), 80);
        dueRow("24: handed at once", x, 1, 1);
        due("24: it must be done by 34", x.cheap(0, 9, 1, 34), 120);
        dueRow("24: by 34", x, 1, 1);
        due("24: by 46 nine hours at office 1 do not pay", x.cheap(0, 9, 1, 46), 100);
        due("24: by 51 fourteen hours do", x.cheap(0, 9, 1, 51), 14 * 5 + 2 * 10);
        dueRow("24: by 51", x, 1, 1);
        due("24: not by 28", x.cheap(0, 9, 1, 28), -2);
        due("24: by 29", x.cheap(0, 9, 1, 29), 120);
        due("24: end is hour", x.cheap(0, 9, 1, 9), -2);
        due("24: end ahead", x.cheap(0, 9, 1, 8), NONE);
        due("24: 400", x.cheap(0, 9, 0, 409), 100);
        dueRow("24: 400", x, 0);
        due("24: 401", x.cheap(0, 9, 0, 410), NONE);
        due("24: 2400", x.cheap(0, 2390, 0, 2400), NONE);
        due("24: 2399", x.cheap(0, 2390, 0, 2399), -2);
        due("24: k 3", x.cheap(0, 9, 3, 100), NONE);
        due("24: k -1", x.cheap(0, 9, -1, 100), NONE);
        due("24: piece", x.cheap(1, 9, 1, 100), NONE);
        due("24: hour", x.cheap(0, -1, 1, 100), NONE);
        dueRow("24: they tell nothing", x, 0);
        FollowTheSun y = new FollowTheSun();
        y.office(0, 8, 5, 65);
        y.office(0, 8, 5, 65);
        y.office(0, 8, 4, 65);
        y.office(0, 8, 4, 65);
        y.set(0, 0);
        piece(y, 0, 8, 0);
        due("24: of equal ones the least row", y.cheap(0, 0, 2, 48), 32);
        dueRow("24: the least row", y, 1, 2);
        FollowTheSun z = meetingOnce();
        due("24: lost from the next hour on", z.cheap(0, 15, 1, 17), 1);
        due("24: an hour later", z.cheap(0, 16, 1, 40), 3);
        y.set(0, 2);
        due("24: of equal ones the fewest", y.cheap(0, 0, 2, 48), 40);
        dueRow("24: the fewest", y, 0);
    }

    private static void promise25() {
        FollowTheSun x = two();
        piece(x, 0, 10, 0);
        due("25: edge", x.edge(0, 9, 1), 5);
        dueRow("25: edge", x, 35);
        x.set(0, 17);
        due("25: LOSE as it is has no say", x.edge(0, 9, 3), 5);
        x.know(0, 1, 6);
        due("25: known", x.edge(0, 9, 1), 11);
        x.know(0, 1, 9);
        piece(x, 0, 8, 0);
        due("25: from 0 on", x.edge(1, 9, 3), 0);
        dueRow("25: from 0 on", x, 17);
        x.office(24 * 4 + 13, 8, 1, 65);
        x.know(0, 2, 9);
        // Office 2 works in the hours 9 .. 16, too: never sooner; with a feast of 0 it always is.
        x.feast(0, 1, true);
        x.feast(0, 2, true);
        due("25: also at 20", x.edge(0, 9, 1), -2);
        dueRow("25: told, too", x, 83);
        due("25: k 0", x.edge(0, 9, 0), NONE);
        due("25: k 4", x.edge(0, 9, 4), NONE);
        due("25: piece", x.edge(2, 9, 1), NONE);
        due("25: hour", x.edge(0, 2400, 1), NONE);
        due("25: not without", x.edge(0, 2398, 1), NONE);
        piece(x, 5, 1, 0);
        due("25: no craft", x.edge(2, 9, 1), NONE);
        dueRow("25: they tell nothing", x, 83);
    }

    private static void promise26() {
        FollowTheSun x = two();
        x.piece(6 * 3, 6, 0, 0, 1);
        due("26: where it asks", x.lie(0, 9), 1);
        dueRow("26: where it asks", x, 28, 1);
        piece(x, 0, 10, 1);
        due("26: does not ask", x.lie(1, 9), 0);
        dueRow("26: does not ask", x, 35, 0);
        x.piece(6 * 5, 5, 3, 0, 1);
        due("26: done ahead of its asking, after left out", x.lie(2, 9), 0);
        dueRow("26: done ahead", x, 14, 0);
        x.office(24 * 20 + 9, 8, 1, 65);
        x.piece(6 * 3, 6, 0, 0, 2);
        // At 0: 9 .. 11, waits 12, 13, then 14 .. 16. At 2: 13 .. 15, waits 16, 17 .. 19.
        due("26: the soonest", x.lie(3, 9), 0);
        dueRow("26: the soonest", x, 17, 2);
        x.office(24 * 20 + 9, 8, 1, 65);
        due("26: of equal ones the first", x.lie(3, 13), 2);
        dueRow("26: of equal ones", x, 20, 1);
        piece(x, 5, 1, 0);
        due("26: none", x.lie(4, 9), -2);
        due("26: too late", x.lie(1, 2398), -2);
        due("26: piece", x.lie(5, 9), NONE);
        due("26: hour", x.lie(0, -1), NONE);
        dueRow("26: they tell nothing", x, 20, 1);
        FollowTheSun y = late(9);
        due("26: by 2399", y.lie(0, 2380), 0);
        dueRow("26: by 2399", y, 2399, 0);
        due("26: not by 2400", late(10).lie(0, 2380), -2);
    }

    /** One office, at work in the last ten hours of a day, and one piece there. */
    private static FollowTheSun late(int length) {
        FollowTheSun x = new FollowTheSun();
        x.office(14, 10, 1, 65);
        piece(x, 0, length, 0);
        return x;
    }

    private static void promise27() {
        FollowTheSun x = two();
        piece(x, 0, 10, 0);
        x.piece(6 * 60 + 1, 4, 1, 0, NONE);
        rule(x, "1-n");
        due("27: both", x.homes(3, 9), 49);
        dueRow("27: both", x, 0, 1);
        due("27: one alone can't", x.homes(1, 9), -2);
        due("27: the other alone", x.homes(2, 9), 49);
        dueRow("27: the other alone", x, 1);
        due("27: none", x.homes(0, 9), NONE);
        due("27: not told", x.homes(4, 9), NONE);
        due("27: below 0", x.homes(-1, 9), NONE);
        due("27: hour", x.homes(3, 2400), NONE);
        due("27: nothing changed", x.of(1, 0), 0);
        due("27: the rule is as it was", x.value(0, 0), 1);
        dueRow("27: they tell nothing", x, 1);
        FollowTheSun y = new FollowTheSun();
        y.office(0, 8, 1, 65);
        y.office(0, 8, 1, 65);
        for (int i = 0; i < 5; i++) {
            piece(y, 0, 2, 0);
        }
        // Office 0 has one of four at least beside what is born there: 0 0 1 1 and such as it.
        due("27: people", y.homes(15, 0), 6);
        dueRow("27: of equal ones the least row", y, 0, 0, 1, 1);
        due("27: five", y.homes(31, 0), NONE);
        due("27: three", y.homes(22, 0), 6);
        dueRow("27: by numbers", y, 0, 1, 1);
        due("27: by 2399", late(9).homes(1, 2380), 2399);
        due("27: not by 2400", late(10).homes(1, 2380), -2);
    }

    private static void promise28() {
        FollowTheSun x = new FollowTheSun();
        for (int i = 0; i < 6; i++) {
            big(x, i, 1);
        }
        due("28: first", x.pair(0, 1, 1), 1);
        due("28: told already", x.pair(0, 1, 1), NONE);
        due("28: the other way", x.pair(1, 0, 1), NONE);
        due("28: itself", x.pair(2, 2, 1), NONE);
        due("28: price 0", x.pair(0, 2, 0), NONE);
        due("28: price 100", x.pair(0, 2, 100), NONE);
        due("28: office", x.pair(0, 6, 1), NONE);
        due("28: office below 0", x.pair(-1, 0, 1), NONE);
        for (int i = 2; i <= 9; i++) {
            due("28: more", x.pair(i < 6 ? 0 : 1, i < 6 ? i : i - 4, 99), i);
        }
        due("28: a tenth", x.pair(4, 5, 1), NONE);
        due("28: how many", x.count(4), 9);
    }

    private static void promise29() {
        FollowTheSun x = two();
        due("29: no pieces", x.whom(9, 9), NONE);
        piece(x, 0, 10, 0);
        x.piece(6 * 60 + 1, 4, 1, 0, NONE);
        x.pair(0, 1, 10);
        due("29: never", x.whom(20, 9), -2);
        rule(x, "c*100-l");
        due("29: brought together", x.whom(20, 9), 52);
        dueRow("29: brought together", x, 1, 10);
        due("29: just enough coin", x.whom(10, 9), 52);
        due("29: not enough coin", x.whom(9, 9), 71);
        dueRow("29: not enough coin", x, 0, 0);
        due("29: coin 1000", x.whom(1000, 9), NONE);
        due("29: coin -1", x.whom(-1, 9), NONE);
        due("29: hour", x.whom(9, 2400), NONE);
        due("29: nothing changed", x.know(0, 1, 8), 0);
        x.know(0, 1, 9);
        // Piece 0 stays, done by 35; piece 1 is handed at 41 for 2: six hours from 45 on.
        due("29: 9 at most", x.whom(999, 9), 51);
        dueRow("29: of equal ones the least price", x, 0, 0);
        FollowTheSun y = new FollowTheSun();
        for (int i = 0; i < 4; i++) {
            y.office(i == 0 ? 0 : 8, 8, 1, i == 0 ? 64 + 1 : 64 + 3);
        }
        piece(y, 0, 9, 0);
        rule(y, "!b*s*99+n*(k+1)");
        y.set(0, 9);
        // Of itself it goes to 3 for 11 lost, done by 36; with any pair it loses 8, done by 33.
        y.pair(0, 1, 5);
        y.pair(0, 2, 4);
        y.pair(0, 3, 4);
        due("29: none", y.whom(3, 0), 36);
        due("29: the least price", y.whom(99, 0), 33);
        dueRow("29: the least price, then the least bits", y, 2, 4);
    }

    private static void promise30() {
        FollowTheSun x = two();
        due("30: no pieces", x.worth(9), NONE);
        piece(x, 0, 10, 0);
        due("30: none is told", x.worth(9), -2);
        due("30: hour goes first", x.worth(2400), NONE);
        x.office(24 * 12 + 9, 8, 5, 131);
        rule(x, "n=1");
        x.pair(0, 2, 1);
        x.pair(0, 1, 1);
        due("30: the second", x.worth(9), 1);
        dueRow("30: the second", x, 0, 3);
        x.know(0, 1, 9);
        due("30: of equal ones the first", x.worth(9), 0);
        dueRow("30: of equal ones", x, 0, 0);
        due("30: nothing changed", x.know(0, 1, 9), 9);
        piece(x, 5, 1, 0);
        due("30: does not end", x.worth(9), 0);
        dueRow("30: does not end", x, -9999, -9999);
        FollowTheSun y = two();
        piece(y, 0, 10, 0);
        // With more known it goes to 1 and loses 8: ten hours from 21 on.
        rule(y, "k>2&!b");
        y.pair(0, 1, 1);
        y.set(0, 9);
        due("30: later", y.worth(9), 0);
        dueRow("30: below 0", y, 35 - 47);
    }

    private static void promise31() {
        FollowTheSun x = two();
        due("31: no handings", x.wrong(0), 0);
        dueRow("31: 0 at least", x, 1, 1);
        due("31: none", x.wrong(1), 0);
        dueRow("31: none", x, 0, 1);
        x.set(1, 50);
        piece(x, 0, 10, 0);
        x.hand(0, 1);
        x.hand(0, 0);
        due("31: one at least", x.wrong(1), 0);
        dueRow("31: one at least", x, 3, 4);
        due("31: two", x.wrong(2), 0);
        dueRow("31: two", x, 1, 4);
        due("31: three", x.wrong(3), 0);
        dueRow("31: three", x, 0, 1);
        x.know(0, 1, 3);
        x.hand(0, 1);
        // 50 by 7, by 10: 35 in a hundred. Not one of three: 1/2 * 1/2 * 13/20.
        x.wrong(1);
        dueRow("31: unlike ones", x, 67, 80);
        x.set(1, 33);
        x.know(0, 1, 0);
        for (int i = 0; i < 9; i++) {
            x.hand(0, i % 2);
        }
        x.wrong(8);
        dueRow("31: the first 8 alone", x, 7L * 33 * 33 * 33 * 33 * 33, 80L * 100 * 100 * 100 * 100 * 100);
        due("31: k 9", x.wrong(9), NONE);
        due("31: k -1", x.wrong(-1), NONE);
        FollowTheSun y = two();
        y.set(1, 99);
        piece(y, 0, 10, 0);
        for (int i = 0; i < 8; i++) {
            y.hand(0, 1 - i % 2);
        }
        y.wrong(1);
        dueRow("31: large numbers", y, 9999999999999999L, 10000000000000000L);
    }

    private static void promise32() {
        FollowTheSun x = two();
        due("32: none", x.mean(7), 0);
        dueRow("32: none", x, 0, 1);
        piece(x, 0, 10, 0);
        x.hand(0, 1);
        due("32: one", x.mean(5), 1);
        dueRow("32: one", x, 1, 2);
        x.set(1, 35);
        x.hand(0, 0);
        due("32: two", x.mean(99), 2);
        // 45 in a hundred, times 99.
        dueRow("32: two", x, 891, 20);
        due("32: hours 0", x.mean(0), NONE);
        due("32: hours 100", x.mean(100), NONE);
        x.begin(0);
        x.set(1, 50);
        for (int i = 0; i < 70; i++) {
            x.hand(0, 1 - i % 2);
        }
        due("32: 60 are kept", x.mean(1), 60);
        dueRow("32: 60 are kept", x, 30, 1);
        due("32: handings are more", x.count(5), 70);
    }

    private static void promise33() {
        FollowTheSun x = two();
        due("33: none", x.riskiest(), -2);
        piece(x, 0, 10, 0);
        x.know(0, 1, 4);
        x.hand(0, 1);
        due("33: one", x.riskiest(), 0);
        dueRow("33: one", x, 6);
        x.set(1, 99);
        x.hand(0, 0);
        x.hand(0, 1);
        due("33: of equal ones the first", x.riskiest(), 1);
        // 99 by 6, by 10, cut.
        dueRow("33: cut", x, 59);
        x.set(1, 0);
        x.hand(0, 0);
        due("33: what was kept stays", x.riskiest(), 1);
        x.begin(0);
        for (int i = 0; i < 60; i++) {
            x.hand(0, 1 - i % 2);
        }
        x.set(1, 100);
        x.hand(0, 1);
        due("33: the first 60", x.riskiest(), 0);
        dueRow("33: the first 60", x, 0);
    }

    private static void promise34() {
        FollowTheSun x = two();
        due("34: no pieces", x.site(8, 67, 0, 9), NONE);
        piece(x, 0, 10, 0);
        rule(x, "n");
        // At work from 17 on by zone 16, but apart from office 0; by zone 17 two hours are enough.
        due("34: the zone", x.site(8, 67, 9, 9), 17);
        dueRow("34: the zone", x, 19, 29);
        due("34: nothing changed", x.count(0), 2);
        due("34: no office more", x.open(2, 9), NONE);
        x.office(9, 8, 1, 65);
        due("34: a new office is not known", x.know(0, 2, 0), 0);
        due("34: length 0", x.site(0, 67, 0, 9), NONE);
        due("34: length 17", x.site(17, 67, 0, 9), NONE);
        due("34: no people", x.site(8, 3, 0, 9), NONE);
        due("34: no crafts", x.site(8, 64, 0, 9), NONE);
        due("34: ten people", x.site(8, 641, 0, 9), NONE);
        due("34: v 10", x.site(8, 67, 10, 9), NONE);
        due("34: v -1", x.site(8, 67, -1, 9), NONE);
        due("34: hour", x.site(8, 67, 0, 2400), NONE);
        FollowTheSun y = two();
        piece(y, 5, 1, 0);
        rule(y, "n");
        due("34: without it it does not end", y.site(16, 64 + 32, 9, 9), 0);
        dueRow("34: without it", y, 18, NONE);
        due("34: by none", y.site(16, 64 + 16, 9, 9), -2);
        dueRow("34: that tells nothing", y, 18, NONE);
        rule(y, "");
        due("34: nothing is handed", y.site(16, 64 + 32, 9, 9), -2);
        due("34: by 2399", late(9).site(1, 65, 0, 2380), 0);
        due("34: not by 2400", late(10).site(1, 65, 0, 2380), -2);
        for (int i = 2; i < 6; i++) {
            big(y, 0, 1);
        }
        due("34: 6 offices", y.site(8, 67, 0, 9), NONE);
    }

    private static void promise35() {
        FollowTheSun x = two();
        due("35: no pieces", x.together(0, 9), NONE);
        piece(x, 0, 10, 0);
        x.piece(6 * 1 + 5, 4, 0, 1, 1);
        x.piece(6 * 60, 3, 2, 0, NONE);
        rule(x, "1-n");
        // Three people: 0 and 1 side by side from 21 on, 2 from 25 on.
        due("35: at 1", x.together(1, 9), 47);
        dueRow("35: at 1", x, 47, 25, 28, 0, 0, 85);
        due("35: at 0", x.together(0, 9), 35);
        dueRow("35: at 0", x, 35, 13, 16, 0, 0, 170);
        due("35: not by 2399", x.together(0, 2385), -2);
        due("35: office", x.together(2, 9), NONE);
        due("35: hour", x.together(0, -1), NONE);
        dueRow("35: they tell nothing", x, 35, 13, 16, 0, 0, 170);
        due("35: crafts are as they were", x.ends(), -2);
        due("35: the rule is as it was", x.value(0, 0), 1);
        FollowTheSun y = two();
        y.office(0, 8, 1, 64 * 9 + 1);
        for (int i = 0; i < 8; i++) {
            piece(y, 3, 8, 1);
        }
        due("35: 9 people", y.together(0, 9), 17);
        due("35: people are as they were", y.judge(), -2);
    }

    private static void promise36() {
        FollowTheSun x = two();
        due("36: no pieces", x.sleeps(0, 0), NONE);
        piece(x, 0, 10, 0);
        x.begin(9);
        due("36: it stays", x.sleeps(0, 1), 24);
        due("36: another day", x.sleeps(0, 2), 0);
        due("36: another office", x.sleeps(1, 1), 0);
        due("36: nothing changed", x.open(0, 33), 1);
        x.feast(0, 1, true);
        due("36: a feast already", x.sleeps(0, 1), -9998);
        due("36: it is one still", x.open(0, 33), 0);
        x.feast(0, 1, false);
        due("36: day 100", x.sleeps(0, 100), NONE);
        due("36: day -1", x.sleeps(0, -1), NONE);
        due("36: office", x.sleeps(2, 0), NONE);
        x.go(8);
        due("36: from now on", x.sleeps(0, 0), 0);
        x.begin(2361);
        due("36: one does not end", x.sleeps(0, 99), -9999);
        x.begin(2385);
        due("36: none ends", x.sleeps(0, 0), -9999);
        FollowTheSun y = two();
        piece(y, 0, 10, 0);
        // Handed to 1 at 17, as that opens soon: 22 are lost, 24 hours from 21 on.
        rule(y, "n*(r<9)+s*!b");
        y.set(0, 20);
        y.begin(9);
        due("36: handed", y.ends(), 77);
        due("36: sooner, as it stays", y.sleeps(1, 1), 35 - 77);
    }

    private static void promise37() {
        FollowTheSun x = two();
        due("37: no pieces", x.worst(0, 0, 1), NONE);
        piece(x, 0, 10, 0);
        x.begin(9);
        due("37: day 0 or 1", x.worst(0, 0, 5), 0);
        dueRow("37: of equal ones the first", x, 59);
        due("37: from 1 on", x.worst(0, 1, 5), 1);
        dueRow("37: from 1 on", x, 59);
        due("37: none matters", x.worst(0, 2, 5), 2);
        dueRow("37: none matters", x, 35);
        due("37: one day", x.worst(0, 99, 99), 99);
        x.feast(0, 0, true);
        x.feast(0, 1, true);
        due("37: no feast", x.worst(0, 0, 3), 2);
        dueRow("37: no feast", x, 107);
        due("37: feasts alone", x.worst(0, 0, 1), -2);
        due("37: nothing changed", x.open(0, 57) * 10 + x.open(0, 9), 10);
        due("37: from above to", x.worst(0, 2, 1), NONE);
        due("37: day 100", x.worst(0, 0, 100), NONE);
        due("37: day -1", x.worst(0, -1, 0), NONE);
        due("37: office", x.worst(2, 0, 1), NONE);
        dueRow("37: they tell nothing", x, 107);
        x.begin(2361);
        due("37: with which it ends", x.worst(0, 97, 99), 97);
        dueRow("37: with which it ends", x, 2387);
        due("37: it ends with none", x.worst(0, 98, 99), -2);
    }

    private static void promise38() {
        FollowTheSun x = two();
        due("38: no pieces", x.march(0, 0), NONE);
        piece(x, 0, 10, 0);
        x.begin(9);
        // 9 .. 15, then three hours from 32 on: 35, as without.
        due("38: within", x.march(0, 10), 0);
        due("38: behind the first day", x.march(0, 20), -1);
        due("38: too late", x.march(0, 100), 0);
        due("38: another office", x.march(1, 0), 0);
        due("38: nothing changed", x.open(0, 32), 0);
        x.clock(0, 0, -1);
        // 10 .. 17 and 34, 35: by 36; put forward 9 .. 15 and 32 .. 34: by 35.
        due("38: instead of how it is", x.march(0, 10), -1);
        due("38: its clock is as it was", x.open(0, 9) * 10 + x.open(0, 17), 1);
        due("38: hour", x.march(0, 2400), NONE);
        due("38: office", x.march(2, 0), NONE);
        x.begin(2390);
        due("38: does not end", x.march(0, 0), -9999);
    }

    private static void promise39() {
        FollowTheSun x = two();
        piece(x, 0, 10, 0);
        x.begin(9);
        for (int i = 0; i < 3; i++) {
            due("39: keep", x.keep(i), true);
            x.go(3);
        }
        due("39: 3", x.keep(3), false);
        due("39: -1", x.keep(-1), false);
        x.again(1);
        due("39: the one kept", x.of(0, 1), 7);
        due("39: kept anew", x.keep(0), true);
        x.begin(0);
        x.again(0);
        due("39: the new one", x.count(2), 12);
    }

    private static void promise40() {
        FollowTheSun x = two();
        due("40: nothing kept", x.again(0), false);
        x.piece(6 * 3, 10, 0, 0, 1);
        x.begin(9);
        x.go(4);
        x.hand(0, 1);
        x.keep(0);
        x.set(1, 100);
        x.hand(0, 0);
        x.go(100);
        due("40: again", x.again(0), true);
        int[] then = {1, 13, 0, 1, NONE, 3, 1, 6, 1};
        for (int what = 0; what <= 8; what++) {
            due("40: of(0, " + what + ")", x.of(0, what), then[what]);
        }
        due("40: now", x.count(2), 13);
        due("40: pay", x.count(7), 30);
        due("40: handings", x.count(5), 1);
        due("40: kept wrongs", x.riskiest(), 0);
        dueRow("40: kept wrongs", x, 10);
        due("40: MISS is not kept", x.set(1, 1), 100);
        x.begin(0);
        due("40: twice", x.again(0), true);
        due("40: twice now", x.count(2), 13);
        due("40: another number", x.again(1), false);
        due("40: 3", x.again(3), false);
        due("40: -1", x.again(-1), false);
        x.begin(5);
        piece(x, 0, 1, 0);
        due("40: a piece was told", x.again(0), false);
        due("40: nothing changed", x.count(2), 5);
        x.keep(0);
        due("40: kept since", x.again(0), true);
    }

    private static void promise41() {
        FollowTheSun x = two();
        piece(x, 0, 2, 0);
        piece(x, 0, 9, 1);
        x.pair(0, 1, 3);
        x.begin(9);
        x.go(2);
        x.hand(1, 0);
        x.dark(0, 0);
        x.sign(0);
        int[] then = {2, 2, 11, 1, 1, 1, 6, 20, 3, 4};
        for (int what = 0; what <= 9; what++) {
            due("41: count(" + what + ")", x.count(what), then[what]);
        }
        due("41: 10", x.count(10), NONE);
        due("41: -1", x.count(-1), NONE);
    }

    private static void promise42() {
        FollowTheSun x = two();
        due("42: none", throwsOnRow(x, 0), true);
        x.dark(0, 0);
        due("42: first", x.row(0), 5);
        due("42: last", x.row(2), 0);
        due("42: behind", throwsOnRow(x, 3), true);
        due("42: below 0", throwsOnRow(x, -1), true);
        x.wrong(1);
        due("42: the last told", x.row(1), 1);
        due("42: it alone", throwsOnRow(x, 2), true);
    }

    public static void main(String[] args) {
        promise1();
        promise2();
        promise3();
        promise4();
        promise5();
        promise6();
        promise7();
        promise8();
        promise9();
        promise10();
        promise11();
        promise12();
        promise13();
        promise14();
        promise15();
        promise16();
        promise17();
        promise18();
        promise19();
        promise20();
        promise21();
        promise22();
        promise23();
        promise24();
        promise25();
        promise26();
        promise27();
        promise28();
        promise29();
        promise30();
        promise31();
        promise32();
        promise33();
        promise34();
        promise35();
        promise36();
        promise37();
        promise38();
        promise39();
        promise40();
        promise41();
        promise42();
        System.out.println(wrong == 0 ? checks + " answers are as due" : wrong + " answers are not as due");
        if (wrong != 0) {
            System.exit(1);
        }
    }
}
