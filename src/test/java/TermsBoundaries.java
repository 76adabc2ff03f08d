/** The boundary cases of the first term: hours, offices, stints, feasts, what is known and lost. */
final class TermsBoundaries extends Sentences {
    private static FollowTheSun asked() {
        FollowTheSun x = two();
        piece(x, 0, 1, 0);
        x.pair(0, 1, 1);
        return x;
    }

    @Says("HOURS 0 .. 2399 by one clock.")
    void hoursOutside() {
        FollowTheSun x = asked();
        for (int h : NO_HOURS) {
            due("clock", x.clock(0, h, 1), false);
            due("open", x.open(0, h), NONE);
            due("overlap", x.overlap(0, 1, h), NONE);
            due("loses", x.loses(0, 1, h), NONE);
            due("dark", x.dark(0, h), NONE);
            due("begin", x.begin(h), false);
            due("one", x.one(0, h, 0), NONE);
            due("cheap", x.cheap(0, h, 0, 2399), NONE);
            due("edge", x.edge(0, h, 1), NONE);
            due("lie", x.lie(0, h), NONE);
            due("homes", x.homes(1, h), NONE);
            due("whom", x.whom(0, h), NONE);
            due("worth", x.worth(h), NONE);
            due("site", x.site(8, 65, 0, h), NONE);
            due("together", x.together(0, h), NONE);
            due("march", x.march(0, h), NONE);
        }
        dueSame("behind them", seen(x), seen(asked()));
    }

    @Says("HOURS 0 .. 2399 by one clock.")
    void hoursFirst() {
        FollowTheSun x = asked();
        due("clock", x.clock(0, 0, 0), true);
        due("open", x.open(1, 0), 1);
        due("overlap", x.overlap(0, 0, 0), 8);
        due("loses", x.loses(0, 1, 0), 6);
        due("dark", x.dark(0, 0), 8);
        due("begin", x.begin(0), true);
        due("one", x.one(0, 0, 0), 10);
        due("cheap", x.cheap(0, 0, 0, 10), 10);
        // Handed behind 0 it has 3 and LOSE LEFT, in 1 .. 4: sooner with LOSE 0 and 1.
        due("edge", x.edge(0, 0, 1), 2);
        due("lie", x.lie(0, 0), 1);
        due("homes", x.homes(1, 0), 1);
        due("whom", x.whom(0, 0), 10);
        due("worth", x.worth(0), 0);
        due("site", x.site(8, 65, 0, 0), 0);
        due("together", x.together(0, 0), 10);
        due("march", x.march(0, 0), -1);
        dueRow(x, 10, 0, 0, 10);
    }

    @Says("HOURS 0 .. 2399 by one clock.")
    void hoursLast() {
        FollowTheSun x = asked();
        due("open", x.open(1, LAST), 1);
        due("overlap", x.overlap(0, 0, LAST), 8);
        due("loses", x.loses(0, 1, LAST), 6);
        due("dark", x.dark(0, LAST), 8);
        due("one", x.one(0, LAST, 0), -2);
        due("cheap", x.cheap(0, LAST, 0, LAST), -2);
        due("lie", x.lie(0, LAST), -2);
        due("homes", x.homes(1, LAST), -2);
        due("whom", x.whom(0, LAST), -2);
        due("worth", x.worth(LAST), 0);
        due("site", x.site(8, 65, 0, LAST), -2);
        due("together", x.together(0, LAST), -2);
        due("march", x.march(0, LAST), 0);
        due("begin", x.begin(LAST), true);
        due("now", x.count(2), LAST);
        due("clock", x.clock(1, LAST, -1), true);
        due("open, put back", x.open(1, LAST), 1);
        // At 2398 an office that is at work then has one hour more: its work is DONE by 2399.
        FollowTheSun y = late(1);
        due("edge", y.edge(0, 2398, 1), 0);
        dueRow(y, LAST);
    }

    @Says("OFFICES 0 .. (at most 6)")
    void officesOutside() {
        FollowTheSun x = asked();
        rule(x, "n");
        for (int o : new int[] {-1, 2, 6, Integer.MIN_VALUE, Integer.MAX_VALUE}) {
            due("clock", x.clock(o, 0, 1), false);
            due("feast", x.feast(o, 0, true), false);
            due("know", x.know(o, 0, 1), NONE);
            due("know", x.know(0, o, 1), NONE);
            due("sheet", x.sheet(o, 3, 0, 0, 0), NONE);
            due("open", x.open(o, 9), NONE);
            due("overlap", x.overlap(o, 0, 0), NONE);
            due("overlap", x.overlap(0, o, 0), NONE);
            due("loses", x.loses(o, 0, 0), NONE);
            due("loses", x.loses(0, o, 0), NONE);
            due("loses of one and itself", x.loses(o, o, 0), NONE);
            due("piece", x.piece(6, 1, 0, o, NONE), NONE);
            dueThrow("value", () -> x.value(0, o));
            due("hand", x.hand(0, o), NONE);
            due("pair", x.pair(o, 0, 1), NONE);
            due("pair", x.pair(0, o, 1), NONE);
            due("together", x.together(o, 0), NONE);
            due("sleeps", x.sleeps(o, 0), NONE);
            due("worst", x.worst(o, 0, 0), NONE);
            due("march", x.march(o, 0), NONE);
        }
        FollowTheSun y = asked();
        rule(y, "n");
        dueSame("behind them", seen(x), seen(y));
    }

    @Says("OFFICES 0 .. (at most 6)")
    void officesFull() {
        FollowTheSun x = new FollowTheSun();
        for (int i = 0; i < 6; i++) {
            due("office", plain(x, i, 8), i);
        }
        due("a seventh", plain(x, 0, 8), NONE);
        due("how many", x.count(0), 6);
        due("the last", x.open(5, 5), 1);
        due("none behind it", x.open(6, 5), NONE);
    }

    @Says("Its CLOCK is put by -1 or 1 from an HOUR on (0: not, as at first).")
    void clockFromAnHourOn() {
        FollowTheSun x = two();
        // The last hour of the stint is 16; a clock put forward there makes it one shorter.
        x.clock(0, 16, 1);
        due("15", x.open(0, 15), 1);
        due("16", x.open(0, 16), 0);
        x.clock(0, 17, 1);
        due("16, put later", x.open(0, 16), 1);
        due("32", x.open(0, 32), 1);
        due("40", x.open(0, 40), 0);
        x.clock(0, 17, -1);
        due("17, put back", x.open(0, 17), 1);
        due("18, put back", x.open(0, 18), 0);
        due("33, put back", x.open(0, 33), 0);
        due("41, put back", x.open(0, 41), 1);
        x.clock(0, 17, 0);
        due("17, not put", x.open(0, 17), 0);
        due("33, not put", x.open(0, 33), 1);
    }

    @Says("Its CLOCK is put by -1 or 1 from an HOUR on (0: not, as at first).")
    void clockAnew() {
        FollowTheSun x = two();
        x.clock(0, 9, 1);
        x.clock(0, 33, 1);
        due("what was told first is no more", x.open(0, 16), 1);
        due("32 is ahead of it", x.open(0, 32), 0);
        due("40", x.open(0, 40), 0);
    }

    @Says("begins as LOCAL by 24 is FROM (the rest 0 .. 23, also of what is below 0)")
    void localBelowZero() {
        FollowTheSun x = new FollowTheSun();
        x.office(23, 1, 1, 65);
        due("LOCAL 0", x.open(0, 0), 0);
        x.clock(0, 0, -1);
        due("LOCAL -1", x.open(0, 0), 1);
        due("LOCAL 0, an hour later", x.open(0, 1), 0);
        due("LOCAL 22", x.open(0, 23), 0);
        due("LOCAL 23", x.open(0, 24), 1);
    }

    @Says("begins as LOCAL by 24 is FROM (the rest 0 .. 23, also of what is below 0)")
    void localAboveDay() {
        FollowTheSun x = new FollowTheSun();
        // Zone 23: LOCAL is 23 at hour 0, and 24 at hour 1.
        x.office(24 * 23, 1, 1, 65);
        due("LOCAL 23", x.open(0, 0), 0);
        due("LOCAL 24", x.open(0, 1), 1);
        due("LOCAL 25", x.open(0, 2), 0);
        due("LOCAL 48", x.open(0, 25), 1);
    }

    @Says("LONG hours of LOCAL long")
    void longHours() {
        FollowTheSun x = new FollowTheSun();
        plain(x, 9, 1);
        plain(x, 9, 16);
        due("LONG 1, ahead", x.open(0, 8), 0);
        due("LONG 1", x.open(0, 9), 1);
        due("LONG 1, behind", x.open(0, 10), 0);
        due("LONG 16, ahead of hour 0", x.open(1, 0), 1);
        due("LONG 16, behind it", x.open(1, 1), 0);
        due("LONG 16, ahead", x.open(1, 8), 0);
        due("LONG 16, first", x.open(1, 9), 1);
        due("LONG 16, last", x.open(1, 24), 1);
        due("LONG 16, behind", x.open(1, 25), 0);
    }

    @Says("LONG hours of LOCAL long")
    void longHoursOfLocal() {
        FollowTheSun x = two();
        // Put forward within: LOCAL 9 .. 16 are seven hours; put back: nine.
        x.clock(0, 12, 1);
        due("forward", x.overlap(0, 0, 0), 7);
        x.clock(0, 12, -1);
        due("back", x.overlap(0, 0, 0), 9);
        due("its last", x.open(0, 17), 1);
    }

    @Says("the DAY of a STINT: LOCAL at its begin by 24 (cut down)")
    void dayOverMidnight() {
        FollowTheSun x = new FollowTheSun();
        plain(x, 20, 8);
        x.feast(0, 1, true);
        due("begun on day 0, at 24", x.open(0, 24), 1);
        due("begun on day 0, at 27", x.open(0, 27), 1);
        due("begun on day 1, at 44", x.open(0, 44), 0);
        due("begun on day 1, at 48", x.open(0, 48), 0);
        due("begun on day 1, at 51", x.open(0, 51), 0);
        due("begun on day 2", x.open(0, 68), 1);
    }

    @Says("the DAY of a STINT: LOCAL at its begin by 24 (cut down)")
    void dayBelowZero() {
        FollowTheSun x = new FollowTheSun();
        // The stint at hour 0 began at LOCAL -1: that is day -1, not day 0.
        plain(x, 23, 16);
        x.feast(0, 0, true);
        due("hour 0", x.open(0, 0), 1);
        due("hour 14", x.open(0, 14), 1);
        due("hour 23", x.open(0, 23), 0);
        due("hour 24", x.open(0, 24), 0);
        due("hour 47", x.open(0, 47), 1);
    }

    @Says("FEASTS: DAYS 0 .. 99 of an OFFICE, on which there is no STINT.")
    void feastDays() {
        FollowTheSun x = new FollowTheSun();
        // By zone 23 a stint begins at hour 2377 on day 100, which can be no feast.
        x.office(24 * 23, 1, 1, 65);
        x.office(0, 1, 1, 65);
        due("day 99", x.feast(0, 99, true), true);
        due("day 100", x.feast(0, 100, true), false);
        due("day -1", x.feast(1, -1, true), false);
        due("on day 98", x.open(0, 2329), 1);
        due("on day 99", x.open(0, 2353), 0);
        due("on day 100", x.open(0, 2377), 1);
        due("of the other one", x.open(1, 2376), 1);
        due("day 0", x.feast(1, 0, true), true);
        due("on day 0", x.open(1, 0), 0);
        due("on day 1", x.open(1, 24), 1);
    }

    /** Office 0 is at work in the hours 0, 24, 48 .. but for told days, office 1 all around them. */
    private static FollowTheSun meeting(int feast) {
        FollowTheSun x = new FollowTheSun();
        plain(x, 0, 1);
        plain(x, 0, 16);
        x.feast(0, feast, true);
        return x;
    }

    @Says("OVERLAP of two OFFICES from an HOUR on: in how many of the 24 HOURS from that one on both are AT WORK.")
    void overlapOfTwentyFour() {
        FollowTheSun x = meeting(0);
        due("24 is not in 0 .. 23", x.overlap(0, 1, 0), 0);
        due("24 is in 1 .. 24", x.overlap(0, 1, 1), 1);
        due("24 is in 24 .. 47", x.overlap(0, 1, 24), 1);
        due("48 is in 25 .. 48", x.overlap(0, 1, 25), 1);
        FollowTheSun y = meeting(1);
        due("0 is in 0 .. 23", y.overlap(0, 1, 0), 1);
        due("0 is not in 1 .. 24", y.overlap(0, 1, 1), 0);
        due("48 is not in 24 .. 47", y.overlap(0, 1, 24), 0);
    }

    @Says("OVERLAP of two OFFICES from an HOUR on: in how many of the 24 HOURS from that one on both are AT WORK.")
    void overlapBehindTheLastHour() {
        FollowTheSun x = meeting(0);
        due("24 from 2399 on", x.overlap(1, 1, LAST), 16);
        due("2400 is the second of them", x.overlap(0, 1, LAST), 1);
    }

    @Says("KNOWN of two OFFICES 0 .. 9 (both ways; at first 0; of one and itself 9).")
    void knownAtFirst() {
        FollowTheSun x = two();
        piece(x, 0, 1, 0);
        rule(x, "k");
        due("of itself", x.value(0, 0), 9);
        due("at first", x.value(0, 1), 0);
        due("9", x.know(0, 1, 9), 0);
        due("the other way", x.know(1, 0, 0), 9);
        due("10", x.know(0, 1, 10), NONE);
        due("-1", x.know(0, 1, -1), NONE);
        due("nothing changed", x.value(0, 1), 0);
    }

    @Says("LOSE 0 .. 20 (at first 4), MISS 0 .. 100 (at first 10).")
    void loseAndMiss() {
        FollowTheSun x = new FollowTheSun();
        due("LOSE at first", x.set(0, 20), 4);
        due("LOSE 21", x.set(0, 21), NONE);
        due("LOSE -1", x.set(0, -1), NONE);
        due("LOSE 0", x.set(0, 0), 20);
        due("LOSE then", x.set(0, 4), 0);
        due("MISS at first", x.set(1, 100), 10);
        due("MISS 101", x.set(1, 101), NONE);
        due("MISS -1", x.set(1, -1), NONE);
        due("MISS 0", x.set(1, 0), 100);
        due("MISS then", x.set(1, 10), 0);
    }

    @Says("LOST from a to b from an HOUR on: LOSE less KNOWN, 0 at least")
    void lostAtLeastNone() {
        FollowTheSun x = meeting(50);
        x.know(0, 1, 3);
        due("one more than known", x.loses(0, 1, 0), 1);
        x.know(0, 1, 4);
        due("as much as known", x.loses(0, 1, 0), 0);
        x.know(0, 1, 5);
        due("less than known", x.loses(0, 1, 0), 0);
        x.set(0, 0);
        due("LOSE 0", x.loses(1, 0, 0), 0);
        x.set(0, 20);
        x.know(0, 1, 0);
        due("the most", x.loses(1, 0, 0), 20);
    }

    @Says("and 2 more if their OVERLAP from then on is 0.")
    void lostTwoMore() {
        FollowTheSun x = meeting(1);
        due("OVERLAP is 1", x.loses(0, 1, 0), 4);
        due("OVERLAP is 0", x.loses(0, 1, 1), 6);
        due("the other way", x.loses(1, 0, 1), 6);
        due("OVERLAP is 0 still", x.loses(0, 1, 24), 6);
        due("OVERLAP is 1 again", x.loses(0, 1, 25), 4);
        x.know(0, 1, 9);
        due("2 more than none", x.loses(0, 1, 1), 2);
    }

    @Says("WRONG from a to b: MISS times (10 less KNOWN) by 10, cut, in a hundred.")
    void wrongCut() {
        int[][] cases = {{100, 0, 100}, {100, 9, 10}, {99, 9, 9}, {9, 9, 0}, {0, 0, 0}, {35, 5, 17}, {1, 0, 1}};
        for (int[] c : cases) {
            FollowTheSun x = two();
            piece(x, 0, 1, 0);
            x.set(1, c[0]);
            x.know(0, 1, c[1]);
            x.hand(0, 1);
            due("riskiest", x.riskiest(), 0);
            dueRow(x, c[2]);
        }
    }
}
