/** The boundary cases of the promises 27 to 33: some pieces, acquaintances, what is understood otherwise. */
final class PairBoundaries extends Sentences {
    @Says(promise = 27, value = "PIECES told as bits (1 to 4 of them)")
    void homesBits() {
        FollowTheSun x = two();
        due("no pieces", x.homes(1, 9), NONE);
        for (int i = 0; i < 5; i++) {
            piece(x, 0, 1, 0);
        }
        for (int bits : new int[] {0, 31, 32, 33, 64, 256, -1, Integer.MIN_VALUE, Integer.MAX_VALUE}) {
            due("bits " + bits, x.homes(bits, 9), NONE);
        }
        for (int h : NO_HOURS) {
            due("hour " + h, x.homes(1, h), NONE);
        }
        due("it tells nothing", x.count(8), 0);
        due("one", x.homes(16, 9), 14);
        dueRow(x, 0);
        due("four", x.homes(30, 9), 14);
        dueRow(x, 0, 0, 0, 0);
        FollowTheSun y = two();
        for (int i = 0; i < 8; i++) {
            piece(y, 0, 1, 0);
        }
        due("the last of eight", y.homes(128, 9), 17);
        due("of eight, four", y.homes(240, 9), 17);
        due("of eight, five", y.homes(248, 9), NONE);
        due("a ninth", y.homes(256, 9), NONE);
        FollowTheSun z = two();
        for (int i = 0; i < 8; i++) {
            piece(z, i == 7 ? 1 : 0, 1, 0);
        }
        due("the last of eight has one home", z.homes(129, 9), 22);
        dueRow(z, 0, 1);
    }

    @Says(promise = 27, value = "of all ways that with which ends(), begun at an HOUR, is the soonest; of equal ones the least row")
    void homesOfEqual() {
        FollowTheSun x = new FollowTheSun();
        for (int i = 0; i < 3; i++) {
            plain(x, 0, 8);
        }
        for (int i = 0; i < 4; i++) {
            piece(x, 0, 2, 2);
        }
        due("four at three", x.homes(15, 0), 4);
        dueRow(x, 0, 0, 1, 1);
        due("three beside one at 2", x.homes(7, 0), 4);
        dueRow(x, 0, 0, 1);
        due("one beside three at 2", x.homes(8, 0), 6);
        dueRow(x, 0);
    }

    @Says(promise = 27, value = "and THE RULE is none")
    void homesWithoutRule() {
        FollowTheSun x = two();
        piece(x, 0, 10, 0);
        rule(x, "n");
        // By the rule it would be handed at 17 and DONE by 29.
        due("at 0", x.homes(1, 9), 35);
        dueRow(x, 0);
        x.begin(9);
        due("THE RULE stays", x.ends(), 29);
    }

    @Says(promise = 27, value = "-2: not by 2399 by any; NONE: others. Nothing changes.")
    void homesNever() {
        due("by 2399", late(9).homes(1, 2376), LAST);
        FollowTheSun x = late(10);
        due("not by 2399", x.homes(1, 2376), -2);
        due("it tells nothing", x.count(8), 0);
        plain(x, 13, 10);
        due("at the other one", x.homes(1, 2376), LAST);
        dueRow(x, 1);
        FollowTheSun y = two();
        piece(y, 0, 1, 0);
        piece(y, 5, 1, 0);
        due("another piece is never DONE", y.homes(1, 9), -2);
        FollowTheSun z = StateBoundaries.full();
        z.homes(7, 9);
        dueSame("behind it", seen(z), seen(StateBoundaries.full()));
    }

    @Says(promise = 28, value = "Two OFFICES could be brought together at a PRICE (1 .. 99)")
    void pairPrice() {
        FollowTheSun x = six();
        for (int price : new int[] {0, 100, -1, Integer.MIN_VALUE, Integer.MAX_VALUE}) {
            due("PRICE " + price, x.pair(0, 1, price), NONE);
        }
        due("count", x.count(4), 0);
        due("PRICE 1", x.pair(0, 1, 1), 1);
        due("PRICE 99", x.pair(0, 2, 99), 2);
        due("KNOWN stays", x.know(0, 1, 0), 0);
    }

    private static FollowTheSun six() {
        FollowTheSun x = new FollowTheSun();
        for (int i = 0; i < 6; i++) {
            plain(x, 0, 8);
        }
        return x;
    }

    @Says(promise = 28, value = "Refused: others, told already, 9.")
    void pairRefused() {
        FollowTheSun x = six();
        due("one and itself", x.pair(3, 3, 1), NONE);
        due("first", x.pair(3, 1, 1), 1);
        due("told already", x.pair(3, 1, 2), NONE);
        due("told already, the other way", x.pair(1, 3, 2), NONE);
        due("second", x.pair(1, 2, 1), 2);
        due("the first again", x.pair(3, 1, 1), NONE);
        int[][] more = {{0, 1}, {0, 2}, {0, 3}, {0, 4}, {0, 5}, {4, 5}, {5, 3}};
        for (int i = 0; i < more.length; i++) {
            due("more", x.pair(more[i][0], more[i][1], 99), i + 3);
        }
        due("count", x.count(4), 9);
        due("a tenth", x.pair(2, 3, 1), NONE);
        due("count", x.count(4), 9);
    }

    /** Piece 0 is handed to office 1 behind hour 16, and what it loses decides when it is DONE. */
    private static FollowTheSun handed() {
        FollowTheSun x = two();
        piece(x, 0, 10, 0);
        rule(x, "n");
        x.set(0, 9);
        return x;
    }

    @Says(promise = 28, value = "KNOWN would be 3 more (9 at most)")
    void threeMore() {
        // Two LEFT, 2 apart and 9 less KNOWN LOST: in 21 .. 28 there are eight, the next from 45 on.
        int[] known = {0, 3, 4, 5, 6, 7, 9};
        int[] without = {50, 47, 46, 29, 28, 27, 25};
        int[] with = {47, 28, 27, 26, 25, 25, 25};
        for (int i = 0; i < known.length; i++) {
            FollowTheSun x = handed();
            x.know(0, 1, known[i]);
            x.pair(0, 1, 7);
            due("without", x.whom(6, 9), without[i]);
            due("with", x.whom(7, 9), with[i]);
            due("worth", x.worth(9), 0);
            dueRow(x, without[i] - with[i]);
            due("KNOWN stays", x.know(0, 1, 0), known[i]);
        }
    }

    @Says(promise = 29, value = "The pairs for at most coin (0 .. 999)")
    void whomCoin() {
        FollowTheSun x = handed();
        x.pair(0, 1, 7);
        for (int coin : new int[] {-1, 1000, Integer.MIN_VALUE, Integer.MAX_VALUE}) {
            due("coin " + coin, x.whom(coin, 9), NONE);
        }
        due("it tells nothing", x.count(8), 0);
        due("0", x.whom(0, 9), 50);
        dueRow(x, 0, 0);
        due("less", x.whom(6, 9), 50);
        dueRow(x, 0, 0);
        due("just enough", x.whom(7, 9), 47);
        dueRow(x, 1, 7);
        due("999", x.whom(999, 9), 47);
        dueRow(x, 1, 7);
    }

    @Says(promise = 29, value = "of equal ones those with the least PRICE, then the least bits")
    void whomOfEqual() {
        FollowTheSun x = handed();
        plain(x, 9, 8);
        plain(x, 9, 8);
        rule(x, "n=1");
        x.pair(2, 3, 1);
        due("a pair that is no use", x.whom(99, 9), 50);
        dueRow(x, 0, 0);
        x.pair(1, 0, 9);
        due("the one of use alone", x.whom(99, 9), 47);
        dueRow(x, 2, 9);
        // Two pieces, each by another pair: the last to be DONE is as late as without one of them.
        FollowTheSun y = new FollowTheSun();
        for (int i = 0; i < 3; i++) {
            y.office(i == 0 ? 0 : 8, 8, 1, 64 * 9 + 1);
        }
        piece(y, 0, 9, 0);
        rule(y, "!b*s*99+n*(k+1)");
        y.set(0, 9);
        // By any pair, of 1 or of 2, it loses 8 instead of 11.
        y.pair(0, 1, 5);
        y.pair(0, 2, 5);
        due("the least bits", y.whom(99, 0), 33);
        dueRow(y, 1, 5);
        due("for less than both", y.whom(5, 0), 33);
        dueRow(y, 1, 5);
        due("for less than one", y.whom(4, 0), 36);
        dueRow(y, 0, 0);
    }

    @Says(promise = 29, value = "-2: not by 2399 by any; NONE: others, no PIECES. Nothing changes.")
    void whomNever() {
        due("no pieces", two().whom(0, 9), NONE);
        FollowTheSun x = late(9);
        due("by 2399, no pairs told", x.whom(0, 2376), LAST);
        dueRow(x, 0, 0);
        FollowTheSun y = late(10);
        due("not by 2399", y.whom(0, 2376), -2);
        due("it tells nothing", y.count(8), 0);
        FollowTheSun z = StateBoundaries.full();
        z.whom(99, 9);
        z.worth(9);
        dueSame("behind them", seen(z), seen(StateBoundaries.full()));
    }

    @Says(promise = 30, value = "by how many HOURS ends(), begun at an HOUR, is sooner with it (below 0: later)")
    void worthBelowZero() {
        FollowTheSun x = handed();
        rule(x, "k>2&!b");
        x.pair(0, 1, 1);
        // Without it stays, DONE by 35; with it 8 are LOST: ten from 21 on, DONE by 47.
        due("worth", x.worth(9), 0);
        dueRow(x, -12);
    }

    @Says(promise = 30, value = "-9999 if one of both does not end")
    void worthNoEnd() {
        FollowTheSun x = two();
        piece(x, 1, 1, 0);
        rule(x, "k>2&!b");
        x.pair(0, 1, 1);
        due("not without", x.worth(9), 0);
        dueRow(x, -9999);
        FollowTheSun y = new FollowTheSun();
        y.office(0, 8, 1, 65);
        y.office(8, 8, 1, 66);
        plain(y, 0, 8);
        piece(y, 0, 9, 0);
        rule(y, "k>2&!b");
        y.pair(0, 2, 1);
        y.pair(0, 1, 1);
        // Handed to 1, it is never DONE; handed to 2, it has five LEFT from 24 on instead of one.
        due("not with", y.worth(0), 0);
        dueRow(y, 25 - 26, -9999);
        y.know(1, 2, 1);
        due("the first of both is worth more", y.worth(0), 0);
    }

    @Says(promise = 30, value = "The pair that is worth most; of equal ones the first.")
    void worthMost() {
        FollowTheSun x = handed();
        plain(x, 9, 8);
        rule(x, "n=1");
        x.pair(0, 2, 1);
        x.pair(1, 2, 1);
        due("none is of use", x.worth(9), 0);
        dueRow(x, 0, 0);
        x.pair(0, 1, 1);
        due("the third", x.worth(9), 2);
        dueRow(x, 0, 0, 3);
    }

    @Says(promise = 30, value = "-2: none is told; NONE: others, no PIECES. Nothing changes.")
    void worthNone() {
        FollowTheSun x = two();
        due("no pieces, none told", x.worth(9), NONE);
        x.pair(0, 1, 1);
        due("no pieces", x.worth(9), NONE);
        FollowTheSun y = two();
        piece(y, 0, 1, 0);
        due("none is told", y.worth(9), -2);
        due("it tells nothing", y.count(8), 0);
        for (int h : NO_HOURS) {
            due("hour " + h, y.worth(h), NONE);
        }
        FollowTheSun z = six();
        piece(z, 0, 1, 0);
        for (int i = 0; i < 9; i++) {
            z.pair(i < 5 ? 0 : 1, i < 5 ? i + 1 : i - 3, 1);
        }
        due("nine", z.worth(0), 0);
        dueRow(z, 0, 0, 0, 0, 0, 0, 0, 0, 0);
    }

    private static FollowTheSun handedTimes(int n, int miss) {
        FollowTheSun x = two();
        piece(x, 0, 1, 0);
        x.set(1, miss);
        for (int i = 0; i < n; i++) {
            x.hand(0, 1 - i % 2);
        }
        return x;
    }

    @Says(promise = 31, value = "NONE: k is not 0 .. 8.")
    void wrongBounds() {
        FollowTheSun x = handedTimes(9, 50);
        due("k 0", x.wrong(0), 0);
        dueRow(x, 1, 1);
        due("k 8", x.wrong(8), 0);
        dueRow(x, 1, 256);
        for (int k : new int[] {-1, 9, Integer.MIN_VALUE, Integer.MAX_VALUE}) {
            due("k " + k, x.wrong(k), NONE);
        }
        dueRow(x, 1, 256);
    }

    @Says(promise = 31, value = "HANDINGS in THE BOOK (the first 8 of those kept)")
    void wrongFirstEight() {
        FollowTheSun x = handedTimes(8, 0);
        x.set(1, 100);
        x.hand(0, 1);
        x.wrong(1);
        dueRow(x, 0, 1);
        FollowTheSun y = handedTimes(7, 0);
        y.set(1, 100);
        y.hand(0, 0);
        y.wrong(1);
        dueRow(y, 1, 1);
        y.wrong(2);
        dueRow(y, 0, 1);
        FollowTheSun z = handedTimes(1, 50);
        z.wrong(1);
        dueRow(z, 1, 2);
        z.wrong(2);
        dueRow(z, 0, 1);
    }

    @Says(promise = 31, value = "k at least were understood otherwise, each by its WRONG, apart from one another: the ROW: the fraction.")
    void wrongLarge() {
        FollowTheSun x = handedTimes(8, 1);
        x.wrong(8);
        dueRow(x, 1, 10000000000000000L);
        FollowTheSun y = handedTimes(8, 100);
        for (int k = 0; k <= 8; k++) {
            y.wrong(k);
            dueRow(y, 1, 1);
        }
        FollowTheSun z = handedTimes(3, 10);
        z.wrong(2);
        // 3 times 1/100 times 9/10, and 1/1000.
        dueRow(z, 7, 250);
    }

    @Says(promise = 32, value = "so many hours (1 .. 99)")
    void meanBounds() {
        FollowTheSun x = handedTimes(2, 30);
        for (int hours : new int[] {0, 100, -1, Integer.MIN_VALUE, Integer.MAX_VALUE}) {
            due("hours " + hours, x.mean(hours), NONE);
        }
        due("it tells nothing", x.count(8), 0);
        due("1", x.mean(1), 2);
        dueRow(x, 3, 5);
        due("99", x.mean(99), 2);
        dueRow(x, 297, 5);
    }

    @Says(promise = 32, value = "over all kept: the ROW: the fraction. How many are kept")
    void meanKept() {
        FollowTheSun x = handedTimes(60, 100);
        due("60", x.mean(99), 60);
        dueRow(x, 5940, 1);
        x.hand(0, 1);
        due("61", x.mean(99), 60);
        dueRow(x, 5940, 1);
        due("none", two().mean(5), 0);
        FollowTheSun y = two();
        y.mean(5);
        dueRow(y, 0, 1);
        FollowTheSun z = handedTimes(9, 10);
        due("not eight alone", z.mean(10), 9);
        dueRow(z, 9, 1);
    }

    @Says(promise = 33, value = "The HANDING of those kept with the greatest WRONG; of equal ones the first: it; the ROW: WRONG. -2: none.")
    void riskiestBounds() {
        FollowTheSun x = two();
        due("none", x.riskiest(), -2);
        due("it tells nothing", x.count(8), 0);
        piece(x, 0, 1, 0);
        x.set(1, 0);
        x.hand(0, 1);
        due("of WRONG 0", x.riskiest(), 0);
        dueRow(x, 0);
        x.set(1, 20);
        x.hand(0, 0);
        x.hand(0, 1);
        due("of equal ones", x.riskiest(), 1);
        dueRow(x, 20);
        FollowTheSun y = handedTimes(59, 10);
        y.set(1, 11);
        y.hand(0, 0);
        due("the last kept", y.riskiest(), 59);
        dueRow(y, 11);
        y.set(1, 12);
        y.hand(0, 1);
        due("the next is not kept", y.riskiest(), 59);
        dueRow(y, 11);
        y.begin(0);
        due("none since begin()", y.riskiest(), -2);
    }
}
