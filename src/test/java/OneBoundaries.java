/** The boundary cases of the promises 23 to 26: one piece. */
final class OneBoundaries extends Sentences {
    private static final int[] NO_PIECES = {-1, 1, 8, Integer.MIN_VALUE, Integer.MAX_VALUE};

    @Says(promise = 23, value = "at most k times (0 .. 3), also back")
    void oneHandings() {
        FollowTheSun x = two();
        piece(x, 0, 24, 0);
        x.set(0, 0);
        // Each handing is 2 LOST: 8 hours, 18 LEFT; 8 hours, 12 LEFT; 8 hours, 6 LEFT.
        due("k 0", x.one(0, 9, 0), 65);
        dueRow(x, 0);
        due("k 1", x.one(0, 9, 1), 65);
        dueRow(x, 0);
        due("k 2", x.one(0, 9, 2), 61);
        dueRow(x, 2, 1, 0);
        due("k 3", x.one(0, 9, 3), 51);
        dueRow(x, 3, 1, 0, 1);
        for (int k : new int[] {-1, 4, Integer.MIN_VALUE, Integer.MAX_VALUE}) {
            due("k " + k, x.one(0, 9, k), NONE);
        }
        dueRow(x, 3, 1, 0, 1);
    }

    @Says(promise = 23, value = "where it is BORN, LENGTH LEFT: behind any HOUR it may be handed to another OFFICE")
    void oneBornElsewhere() {
        FollowTheSun x = two();
        piece(x, 0, 10, 1);
        due("not handed", x.one(0, 21, 0), 47);
        dueRow(x, 0);
        due("handed to 0", x.one(0, 21, 1), 41);
        dueRow(x, 1, 0);
        due("cheap", x.cheap(0, 21, 1, 100), 50);
        dueRow(x, 0);
        due("cheap by 41", x.cheap(0, 21, 1, 41), 8 * 5 + 8 * 10);
        dueRow(x, 1, 0);
        // Two LEFT, 2 apart and LOSE: within eight hours in 33 .. 40.
        due("edge", x.edge(0, 21, 1), 5);
        dueRow(x, 47);
    }

    @Says(promise = 23, value = "at most k times (0 .. 3), also back")
    void oneOfAllRows() {
        FollowTheSun x = new FollowTheSun();
        for (int i = 0; i < 4; i++) {
            x.office(0, 8, 1, 66);
        }
        x.office(9, 8, 1, 65);
        x.office(21, 8, 1, 65);
        x.set(0, 0);
        piece(x, 0, 24, 0);
        // Of the 156 rows the last: 24 LEFT at 21, 18 at 33, 12 at 45, and four from 69 on.
        due("6 offices, 3 handings", x.one(0, 20, 3), 73);
        dueRow(x, 3, 5, 4, 5);
        FollowTheSun y = new FollowTheSun();
        for (int i = 0; i < 6; i++) {
            y.office(0, 16, 1, i == 4 ? 65 : 66);
        }
        y.set(0, 9);
        y.know(0, 5, 9);
        y.know(5, 4, 9);
        piece(y, 0, 1, 0);
        due("6 offices, the last of 31 rows", y.cheap(0, 0, 2, 20), 1);
        dueRow(y, 2, 5, 4);
    }

    /** Nothing is LOST from 0 to 1 but what they are apart; they meet at 0, 24, 48 .. */
    private static FollowTheSun meeting() {
        FollowTheSun x = new FollowTheSun();
        x.office(0, 1, 1, 66);
        x.office(0, 16, 1, 65);
        x.know(0, 1, 9);
        piece(x, 0, 1, 0);
        return x;
    }

    @Says(promise = 23, value = "LOST from the next HOUR on comes to LEFT")
    void oneLostFromNextHour() {
        FollowTheSun x = meeting();
        due("they meet in 1 .. 24", x.one(0, 0, 1), 2);
        due("cheap", x.cheap(0, 0, 1, 2), 1);
        x.feast(0, 1, true);
        due("they do not meet in 1 .. 24", x.one(0, 0, 1), 4);
        due("cheap", x.cheap(0, 0, 1, 2), -2);
        due("cheap", x.cheap(0, 0, 1, 4), 3);
        FollowTheSun y = meeting();
        y.clock(0, 10, -1);
        due("they meet in 2 .. 25", y.one(0, 0, 1), 3);
        due("cheap", y.cheap(0, 0, 1, 2), -2);
        due("cheap", y.cheap(0, 0, 1, 3), 1);
    }

    @Says(promise = 23, value = "the soonest HOUR by which it could be DONE, by 2399")
    void oneByTheLastHour() {
        FollowTheSun x = late(9);
        due("by 2399", x.one(0, 2376, 3), LAST);
        dueRow(x, 0);
        FollowTheSun y = late(10);
        due("not by 2399", y.one(0, 2376, 3), -2);
        due("it tells nothing", y.count(8), 0);
        due("the day ahead", y.one(0, 2352, 0), 2376);
        due("from the last hour on", y.one(0, LAST, 0), -2);
    }

    @Says(promise = 23, value = "of equal ones the fewest handings, then the least row of OFFICES")
    void oneOfEqual() {
        FollowTheSun x = new FollowTheSun();
        for (int i = 0; i < 4; i++) {
            x.office(i == 0 ? 0 : 8, 8, 1, 65);
        }
        x.set(0, 0);
        for (int a = 0; a < 4; a++) {
            for (int b = a + 1; b < 4; b++) {
                x.know(a, b, 9);
            }
        }
        piece(x, 0, 8, 0);
        piece(x, 0, 9, 0);
        due("none", x.one(0, 0, 3), 8);
        dueRow(x, 0);
        // Apart, so 2 are LOST: three LEFT from 8 on, at any of the others.
        due("the least", x.one(1, 0, 3), 11);
        dueRow(x, 1, 1);
        x.feast(1, 0, true);
        due("the next", x.one(1, 0, 3), 11);
        dueRow(x, 1, 2);
    }

    @Says(promise = 23, value = "One PIECE by itself (AFTER, ASKS, PEOPLE left out), at a whole from an HOUR on, where it is BORN, LENGTH LEFT")
    void oneByItself() {
        FollowTheSun x = two();
        piece(x, 0, 10, 0);
        x.piece(6, 10, 1, 0, 1);
        rule(x, "n");
        x.begin(9);
        x.go(20);
        due("as at first", x.one(0, 9, 0), 35);
        due("AFTER, ASKS and PEOPLE have no say", x.one(1, 9, 0), 35);
    }

    @Says(promise = 23, value = "-2: none; NONE: others.")
    void oneRefused() {
        FollowTheSun x = two();
        due("no pieces", x.one(0, 9, 0), NONE);
        piece(x, 5, 1, 0);
        for (int p : NO_PIECES) {
            due("piece " + p, x.one(p, 9, 0), NONE);
        }
        for (int h : NO_HOURS) {
            due("hour " + h, x.one(0, h, 0), NONE);
        }
        due("no craft anywhere", x.one(0, 9, 3), -2);
    }

    @Says(promise = 24, value = "DONE by an HOUR end (hour .. hour and 400, at most 2399)")
    void cheapEnd() {
        FollowTheSun x = two();
        piece(x, 0, 1, 0);
        due("end is hour", x.cheap(0, 9, 0, 9), -2);
        due("one hour", x.cheap(0, 9, 0, 10), 10);
        due("ahead of hour", x.cheap(0, 9, 0, 8), NONE);
        due("400", x.cheap(0, 9, 0, 409), 10);
        due("401", x.cheap(0, 9, 0, 410), NONE);
        due("2399", x.cheap(0, 2380, 0, LAST), 10);
        due("2400", x.cheap(0, 2380, 0, 2400), NONE);
        due("1999 and 400", x.cheap(0, 1999, 0, LAST), 10);
        due("1998 and 401", x.cheap(0, 1998, 0, LAST), NONE);
        due("below 0", x.cheap(0, 0, 0, -1), NONE);
        due("far below", x.cheap(0, 9, 0, Integer.MIN_VALUE), NONE);
        due("far above", x.cheap(0, 9, 0, Integer.MAX_VALUE), NONE);
        due("0 and 0", x.cheap(0, 0, 0, 0), -2);
        due("not sooner than it opens", x.cheap(0, 0, 0, 9), -2);
        due("just then", x.cheap(0, 0, 0, 10), 10);
    }

    @Says(promise = 24, value = "at most 2 handings (k 0 .. 2)")
    void cheapHandings() {
        FollowTheSun x = new FollowTheSun();
        // It pays to go 0 -> 1 -> 2: none is LOST along it, but all is from 0 to 2.
        x.office(0, 16, 9, 65);
        x.office(0, 16, 5, 66);
        x.office(0, 16, 1, 65);
        x.set(0, 9);
        x.know(0, 1, 9);
        x.know(1, 2, 9);
        piece(x, 0, 5, 0);
        due("k 0", x.cheap(0, 0, 0, 5), 45);
        dueRow(x, 0);
        due("k 1, by 15", x.cheap(0, 0, 1, 15), 14);
        dueRow(x, 1, 2);
        due("k 2", x.cheap(0, 0, 2, 15), 5);
        dueRow(x, 2, 1, 2);
        for (int k : new int[] {-1, 3, Integer.MIN_VALUE, Integer.MAX_VALUE}) {
            due("k " + k, x.cheap(0, 0, k, 15), NONE);
        }
        dueRow(x, 2, 1, 2);
    }

    @Says(promise = 24, value = "of equal ones the fewest handings, then the least row: it")
    void cheapOfEqual() {
        FollowTheSun x = new FollowTheSun();
        for (int i = 0; i < 4; i++) {
            x.office(0, 16, i == 0 ? 4 : 2, 65);
        }
        x.set(0, 4);
        piece(x, 0, 4, 0);
        // Four hours at 4, or eight at 2: the same.
        due("the fewest", x.cheap(0, 0, 2, 40), 16);
        dueRow(x, 0);
        x.set(0, 3);
        due("the least row", x.cheap(0, 0, 2, 40), 14);
        dueRow(x, 1, 1);
        x.feast(1, 0, true);
        x.feast(1, 1, true);
        x.feast(1, 2, true);
        due("the next", x.cheap(0, 0, 2, 40), 14);
        dueRow(x, 1, 2);
        x.set(0, 4);
        due("the fewest again", x.cheap(0, 0, 2, 40), 16);
        dueRow(x, 0);
        FollowTheSun y = new FollowTheSun();
        y.office(0, 16, 9, 65);
        y.office(0, 16, 5, 65);
        y.office(0, 16, 4, 65);
        y.set(0, 1);
        piece(y, 0, 3, 0);
        due("the cheaper, not the least row", y.cheap(0, 0, 2, 40), 16);
        dueRow(y, 1, 2);
    }

    @Says(promise = 24, value = "It need not be worked while its OFFICE is AT WORK.")
    void cheapIdle() {
        FollowTheSun x = two();
        x.set(0, 0);
        piece(x, 0, 8, 0);
        // To lie at 0 till 17 would cost 80: handed behind the first hour, which is not worked.
        due("none is worked at 0", x.cheap(0, 9, 1, 47), (8 + 2) * 5);
        dueRow(x, 1, 1);
        due("eight hours at 1 alone", x.cheap(0, 9, 1, 29), 2 * 10 + 8 * 5);
    }

    @Says(promise = 24, value = "-2, NONE likewise")
    void cheapRefused() {
        FollowTheSun x = two();
        due("no pieces", x.cheap(0, 9, 0, 20), NONE);
        piece(x, 5, 1, 0);
        for (int p : NO_PIECES) {
            due("piece " + p, x.cheap(p, 9, 0, 20), NONE);
        }
        for (int h : NO_HOURS) {
            due("hour " + h, x.cheap(0, h, 0, 20), NONE);
        }
        due("no craft anywhere", x.cheap(0, 9, 2, 409), -2);
        due("it tells nothing", x.count(8), 0);
    }

    @Says(promise = 24, value = "the least PAY for hours worked")
    void cheapLongest() {
        FollowTheSun x = new FollowTheSun();
        // Sixty hours, and 22 more by a handing: 82 at pay 1.
        x.office(0, 8, 99, 65);
        x.office(8, 8, 99, 66);
        x.office(16, 8, 1, 65);
        x.set(0, 20);
        piece(x, 0, 60, 0);
        due("at once", x.cheap(0, 0, 1, 400), 82);
        dueRow(x, 1, 2);
        due("no less over others", x.cheap(0, 0, 2, 400), 82);
        dueRow(x, 1, 2);
    }

    /** Without handings DONE by 49; at office 1 there are 2 LONG less 1 hours ahead of that. */
    private static FollowTheSun rare(int length) {
        FollowTheSun x = new FollowTheSun();
        plain(x, 0, 1);
        plain(x, 0, length);
        piece(x, 0, 3, 0);
        return x;
    }

    @Says(promise = 25, value = "From which LOSE on (0 .. 20) one() with k handings (1 .. 3) is no sooner than without")
    void edgeBounds() {
        // Two LEFT and what is LOST must be within 2 LONG less 1 hours: LOSE 2 LONG less 3 at most.
        int[] lengths = {1, 2, 3, 10, 11};
        int[] edges = {0, 2, 4, 18, 20};
        for (int i = 0; i < lengths.length; i++) {
            FollowTheSun x = rare(lengths[i]);
            due("LONG " + lengths[i], x.edge(0, 0, 1), edges[i]);
            dueRow(x, 49);
            x.set(0, 20);
            due("LOSE as it is has no say", x.edge(0, 0, 1), edges[i]);
            due("LOSE stays", x.set(0, 20), 20);
        }
    }

    @Says(promise = 25, value = "the least such for which that is so of all from it on; the ROW: the HOUR without")
    void edgeByOne() {
        FollowTheSun x = new FollowTheSun();
        plain(x, 5, 1);
        plain(x, 0, 16);
        piece(x, 0, 1, 0);
        // Handed behind 0 it is DONE by 2 and LOSE; at 5 it would be DONE by 6.
        due("sooner by an hour with LOSE 3", x.edge(0, 0, 1), 4);
        dueRow(x, 6);
        due("sooner by an hour with LOSE 0", x.edge(0, 3, 1), 1);
        dueRow(x, 6);
        due("no sooner with LOSE 0", x.edge(0, 4, 1), 0);
        dueRow(x, 6);
    }

    @Says(promise = 25, value = "-2: also at 20 it is sooner (the HOUR without told, too)")
    void edgeNone() {
        FollowTheSun x = rare(12);
        due("also at 20", x.edge(0, 0, 1), -2);
        dueRow(x, 49);
        due("LOSE stays", x.set(0, 4), 4);
        FollowTheSun y = rare(1);
        y.know(0, 1, 9);
        y.dark(0, 0);
        due("with nothing to win", y.edge(0, 0, 3), 0);
        dueRow(y, 49);
    }

    @Says(promise = 25, value = "NONE: others, it can't be DONE without.")
    void edgeRefused() {
        FollowTheSun x = rare(12);
        for (int k : new int[] {0, -1, 4, Integer.MIN_VALUE, Integer.MAX_VALUE}) {
            due("k " + k, x.edge(0, 0, k), NONE);
        }
        for (int k = 1; k <= 3; k++) {
            dueNot("k " + k, x.edge(0, 0, k), NONE);
        }
        for (int p : NO_PIECES) {
            due("piece " + p, x.edge(p, 0, 1), NONE);
        }
        for (int h : NO_HOURS) {
            due("hour " + h, x.edge(0, h, 1), NONE);
        }
        due("three hours by 2353", x.edge(0, 2304, 1), -2);
        dueRow(x, 2353);
        due("too late without, though not with", x.edge(0, 2370, 1), NONE);
        due("it would be", x.one(0, 2370, 1), 2383);
        dueRow(x, 1, 1);
        FollowTheSun y = two();
        piece(y, 1, 1, 0);
        due("no craft without", y.edge(0, 0, 1), NONE);
        due("it tells nothing", y.count(8), 0);
    }

    @Says(promise = 26, value = "the OFFICE by which it is DONE the soonest (by 2399); of equal ones the first")
    void lieBounds() {
        FollowTheSun x = late(9);
        due("by 2399", x.lie(0, 2376), 0);
        dueRow(x, LAST, 0);
        FollowTheSun y = late(10);
        due("not by 2399", y.lie(0, 2376), -2);
        due("it tells nothing", y.count(8), 0);
        plain(y, 13, 10);
        due("at the other", y.lie(0, 2376), 1);
        dueRow(y, LAST, 0);
        plain(y, 13, 10);
        due("of equal ones", y.lie(0, 2376), 1);
        plain(y, 12, 10);
        due("the soonest", y.lie(0, 2376), 3);
        dueRow(y, 2398, 0);
    }

    @Says(promise = 26, value = "hours in which it WAITED (at that HOUR's begin)")
    void lieWaited() {
        FollowTheSun x = new FollowTheSun();
        plain(x, 0, 4);
        x.office(3, 4, 1, 64 + 32);
        x.piece(6, 2, 0, 0, 1);
        // Worked at 0, it waits as 1, 2 and 3 begin, and is worked at 24.
        due("lie", x.lie(0, 0), 0);
        dueRow(x, 25, 3);
        // Worked at 3, it waits as 4 .. 27 begin, also while the one it asks is AT WORK alone.
        due("lie at 3", x.lie(0, 3), 0);
        dueRow(x, 49, 24);
        x.piece(6 * 2, 2, 0, 0, 1);
        due("DONE ahead of asking", x.lie(1, 0), 0);
        dueRow(x, 2, 0);
        x.piece(6, 3, 0, 0, 0);
        due("its own", x.lie(2, 0), 0);
        // Worked at 0, waits at 1, worked at 2, waits at 3, worked at 24.
        dueRow(x, 25, 2);
    }

    @Says(promise = 26, value = "-2: none; NONE: others.")
    void lieRefused() {
        FollowTheSun x = two();
        due("no pieces", x.lie(0, 0), NONE);
        piece(x, 5, 1, 0);
        due("no craft anywhere", x.lie(0, 0), -2);
        for (int p : NO_PIECES) {
            due("piece " + p, x.lie(p, 0), NONE);
        }
        for (int h : NO_HOURS) {
            due("hour " + h, x.lie(0, h), NONE);
        }
        FollowTheSun y = two();
        y.office(9, 8, 1, 64 + 2);
        y.piece(6, 2, 0, 0, 2);
        y.feast(2, 0, true);
        due("where it asks is no matter of craft", y.lie(0, 9), 0);
        dueRow(y, 35, 24);
    }

    @Says(promise = 26, value = "if it was alone, not handed, AFTER left out, PEOPLE enough, but asking as it does")
    void lieAlone() {
        FollowTheSun x = two();
        piece(x, 0, 60, 0);
        x.piece(6, 1, 1, 1, NONE);
        rule(x, "n");
        x.begin(9);
        x.go(8);
        due("alone", x.lie(1, 9), 0);
        dueRow(x, 10, 0);
        due("not handed", x.lie(0, 9), 0);
        dueRow(x, 9 + 24 * 7 + 4, 0);
    }
}
