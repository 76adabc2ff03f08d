/** The boundary cases of the promises 17 to 22: the state, its end, and its judge. */
final class StateBoundaries extends Sentences {
    @Says(promise = 17, value = "NOW is an HOUR, all PIECES are as at first, THE BOOK is empty: true. Refused: others.")
    void beginAnew() {
        FollowTheSun x = two();
        x.piece(6 * 2, 3, 0, 0, 0);
        piece(x, 0, 1, 1);
        x.begin(9);
        x.go(2);
        x.hand(0, 1);
        x.begin(20);
        x.go(5);
        x.begin(9);
        x.go(2);
        x.hand(0, 1);
        for (int h : NO_HOURS) {
            due("begin", x.begin(h), false);
        }
        due("as it was", x.count(2), 11);
        due("as it was", x.of(0, 3), 1);
        due("as it was", x.count(5), 1);
        due("begin", x.begin(LAST), true);
        due("NOW", x.count(2), LAST);
        int[][] first = {{0, 3, 0, 0, NONE, 0, 0, 0, 1}, {1, 1, 0, 0, NONE, 0, 0, 0, 1}};
        for (int p = 0; p < 2; p++) {
            for (int what = 0; what <= 8; what++) {
                due("of(" + p + ", " + what + ")", x.of(p, what), first[p][what]);
            }
        }
        for (int what : new int[] {3, 5, 6, 7}) {
            due("count(" + what + ")", x.count(what), 0);
        }
        due("none is kept", x.riskiest(), -2);
        due("begin", x.begin(0), true);
        due("NOW", x.count(2), 0);
    }

    @Says(promise = 18, value = "n HOURS (0 .. 500) go by (to 2399 at most): NOW. Refused: others.")
    void goBounds() {
        FollowTheSun x = two();
        due("0", x.go(0), 0);
        due("1", x.go(1), 1);
        due("500", x.go(500), 501);
        for (int n : new int[] {-1, 501, Integer.MIN_VALUE, Integer.MAX_VALUE}) {
            due("go " + n, x.go(n), NONE);
            due("NOW", x.count(2), 501);
        }
        x.begin(1899);
        due("just to 2399", x.go(500), LAST);
        x.begin(1900);
        due("one less", x.go(500), LAST);
        due("0 at 2399", x.go(0), LAST);
        due("500 at 2399", x.go(500), LAST);
        due("501 at 2399", x.go(501), NONE);
        x.begin(2398);
        due("1 at 2398", x.go(1), LAST);
    }

    @Says(promise = 19, value = "NoSuchElementException: none such, another what.")
    void ofNoneSuch() {
        FollowTheSun x = two();
        dueThrow("no pieces", () -> x.of(0, 0));
        piece(x, 0, 1, 0);
        for (int what = 0; what <= 8; what++) {
            x.of(0, what);
        }
        for (int what : new int[] {-1, 9, Integer.MIN_VALUE, Integer.MAX_VALUE}) {
            dueThrow("what " + what, () -> x.of(0, what));
        }
        for (int p : new int[] {-1, 1, 8, Integer.MIN_VALUE, Integer.MAX_VALUE}) {
            dueThrow("piece " + p, () -> x.of(p, 0));
        }
    }

    @Says(promise = 19, value = "4: the HOUR by which it is DONE (NONE)")
    void ofDone() {
        FollowTheSun x = two();
        piece(x, 0, 2, 0);
        x.begin(9);
        x.go(1);
        due("not yet", x.of(0, 4), NONE);
        due("READY", x.of(0, 8), 1);
        x.go(1);
        due("DONE by", x.of(0, 4), 11);
        due("LEFT", x.of(0, 1), 0);
        due("not READY", x.of(0, 8), 0);
        x.go(100);
        due("as it was", x.of(0, 4), 11);
        due("no more is worked", x.of(0, 5), 2);
    }

    @Says(promise = 20, value = "A PIECE that is not DONE is HANDED to another OFFICE (LOST from NOW on): what was LOST. Refused: others.")
    void handRefused() {
        FollowTheSun x = two();
        piece(x, 0, 1, 0);
        x.piece(6, 1, 1, 0, NONE);
        x.begin(9);
        due("to its own", x.hand(0, 0), NONE);
        for (int bad : new int[] {-1, 2, Integer.MIN_VALUE, Integer.MAX_VALUE}) {
            due("piece " + bad, x.hand(bad, 1), NONE);
            due("office " + bad, x.hand(0, bad), NONE);
        }
        due("no HANDINGS", x.count(5), 0);
        due("one that is not READY", x.hand(1, 1), 6);
        x.go(1);
        due("DONE", x.of(0, 4), 10);
        due("one that is DONE", x.hand(0, 1), NONE);
        due("where it was", x.of(0, 0), 0);
        due("HANDINGS", x.count(5), 1);
    }

    @Says(promise = 20, value = "A PIECE that is not DONE is HANDED to another OFFICE (LOST from NOW on): what was LOST. Refused: others.")
    void handFromNow() {
        FollowTheSun x = new FollowTheSun();
        plain(x, 0, 1);
        plain(x, 0, 16);
        x.feast(0, 1, true);
        piece(x, 0, 9, 0);
        x.begin(0);
        due("0 .. 23", x.hand(0, 1), 4);
        x.begin(1);
        due("1 .. 24", x.hand(0, 1), 6);
        due("LEFT", x.of(0, 1), 15);
        due("hours LOST", x.of(0, 7), 6);
        x.begin(LAST);
        due("from the last hour on", x.hand(0, 1), 4);
        x.know(0, 1, 9);
        due("nothing is LOST", x.hand(0, 0), 0);
        due("but it is HANDED", x.of(0, 6), 2);
    }

    @Says(promise = 21, value = "the HOUR by which the last one is (NOW, if they are)")
    void endsNow() {
        FollowTheSun x = two();
        piece(x, 0, 1, 0);
        x.begin(9);
        due("at 9", x.ends(), 10);
        x.go(1);
        due("just DONE", x.ends(), 10);
        dueRow(x, 10, 0, 0, 0);
        x.go(7);
        due("DONE long ago", x.ends(), 17);
        dueRow(x, 10, 0, 0, 0);
        x.go(500);
        x.go(500);
        x.go(500);
        x.go(500);
        x.go(500);
        due("at the last hour", x.ends(), LAST);
    }

    @Says(promise = 21, value = "of each PIECE the HOUR by which it is DONE, then HANDINGS, hours LOST, PAY from now on")
    void endsFromNowOn() {
        FollowTheSun x = two();
        piece(x, 0, 10, 0);
        rule(x, "n");
        x.begin(9);
        due("all of it", x.ends(), 29);
        dueRow(x, 29, 1, 6, 120);
        x.go(8);
        due("handed already", x.ends(), 29);
        dueRow(x, 29, 0, 0, 40);
        x.hand(0, 0);
        // Fourteen LEFT from 33 on: eight, then handed for 6 more: twelve from 45 on.
        due("handed back by hand", x.ends(), 73);
        dueRow(x, 73, 1, 6, 140);
        due("what was LOST ahead", x.count(6), 12);
    }

    @Says(promise = 21, value = "-2: not by 2399; NONE: no PIECES. Nothing changes.")
    void endsByTheLastHour() {
        due("no pieces", two().ends(), NONE);
        FollowTheSun x = late(9);
        x.begin(2376);
        due("by 2399", x.ends(), LAST);
        dueRow(x, LAST, 0, 0, 9);
        FollowTheSun y = late(10);
        y.begin(2376);
        due("not by 2399", y.ends(), -2);
        due("it tells nothing", y.count(8), 0);
        y.begin(LAST);
        due("from the last hour on", y.ends(), -2);
        FollowTheSun z = two();
        piece(z, 5, 1, 0);
        due("never", z.ends(), -2);
    }

    @Says(promise = 21, value = "-2: not by 2399; NONE: no PIECES. Nothing changes.")
    void endsChangesNothing() {
        FollowTheSun x = full();
        x.ends();
        x.judge();
        dueSame("behind it", seen(x), seen(full()));
    }

    /** All of what an object can have: a rule, pieces on their way, pairs, a text. */
    static FollowTheSun full() {
        FollowTheSun x = two();
        plain(x, 4, 6);
        x.clock(2, 50, 1);
        x.feast(1, 3, true);
        x.know(0, 1, 2);
        x.know(2, 0, 3);
        x.know(1, 2, 1);
        x.piece(6 * 5, 14, 0, 0, 2);
        x.piece(6 * 60, 9, 1, 1, NONE);
        x.piece(6 * 4 + 1, 20, 0, 1, 2);
        x.pair(0, 1, 5);
        x.pair(2, 1, 7);
        x.set(0, 3);
        rule(x, "c*99-l*9-r");
        write(x, "k+1");
        x.begin(9);
        x.go(30);
        return x;
    }

    @Says(promise = 22, value = "The first HOUR from NOW on of those that ends() goes through")
    void judgeHours() {
        FollowTheSun x = new FollowTheSun();
        x.office(9, 8, 1, 65);
        x.office(22, 1, 1, 66);
        piece(x, 1, 1, 0);
        x.begin(22);
        due("NOW is the first", x.judge(), 22);
        dueRow(x, 0, 1);
        x.begin(23);
        due("the next day", x.judge(), 46);
        x.begin(2375);
        due("the last one", x.judge(), 2398);
        x.begin(LAST);
        due("no hour", x.judge(), -2);
        FollowTheSun y = new FollowTheSun();
        y.office(9, 8, 1, 65);
        y.office(23, 1, 1, 66);
        piece(y, 1, 1, 0);
        y.begin(2376);
        due("2399 does not go by", y.judge(), -2);
        due("it tells nothing", y.count(8), 0);
    }

    @Says(promise = 22, value = "The first HOUR from NOW on of those that ends() goes through")
    void judgeTillTheEnd() {
        FollowTheSun x = two();
        piece(x, 0, 8, 0);
        x.begin(9);
        due("DONE by 17", x.judge(), -2);
        piece(x, 0, 9, 1);
        x.begin(9);
        due("the other lies at 1", x.judge(), 33);
        dueRow(x, 1, 0);
    }

    @Says(promise = 22, value = "some PIECE that was READY as it began (and does not WAIT) was not worked")
    void judgeWaiting() {
        FollowTheSun x = new FollowTheSun();
        plain(x, 0, 4);
        plain(x, 3, 4);
        x.piece(6, 2, 0, 0, 1);
        // Worked at 0, it waits in 1 .. 3, as the answer comes; then it lies till 24, while 1 is at work.
        x.begin(0);
        due("behind the answer", x.judge(), 4);
        dueRow(x, 0, 1);
        FollowTheSun y = two();
        y.piece(6, 2, 0, 0, 1);
        y.begin(9);
        due("it waits for ever", y.judge(), -2);
        FollowTheSun z = two();
        piece(z, 5, 1, 0);
        z.piece(6, 1, 1, 0, NONE);
        z.begin(9);
        due("one that is not READY", z.judge(), -2);
    }

    @Says(promise = 22, value = "some OFFICE with its CRAFT was AT WORK with PEOPLE left (behind that HOUR's work)")
    void judgePeople() {
        FollowTheSun x = new FollowTheSun();
        x.office(0, 8, 1, 64 + 2);
        x.office(0, 8, 1, 128 + 1);
        piece(x, 0, 1, 0);
        piece(x, 0, 3, 1);
        piece(x, 0, 2, 1);
        due("two of two people till 2", x.judge(), 2);
        dueRow(x, 0, 1);
        FollowTheSun y = new FollowTheSun();
        y.office(0, 8, 1, 64 + 2);
        y.office(0, 8, 1, 64 + 2);
        piece(y, 0, 1, 0);
        due("none with its craft", y.judge(), -2);
    }

    @Says(promise = 22, value = "the ROW: the PIECE, the OFFICE (the first ones)")
    void judgeFirst() {
        FollowTheSun x = new FollowTheSun();
        x.office(0, 8, 1, 64 + 1);
        x.office(0, 8, 1, 64 + 2);
        x.office(0, 8, 1, 64 + 4);
        x.office(0, 8, 1, 64 + 4);
        piece(x, 0, 9, 0);
        piece(x, 2, 9, 0);
        piece(x, 1, 9, 0);
        x.dark(0, 0);
        due("judge", x.judge(), 0);
        dueRow(x, 1, 2);
    }

    @Says(promise = 22, value = "-2: none; NONE: no PIECES. Nothing changes.")
    void judgeNone() {
        FollowTheSun x = two();
        due("no pieces", x.judge(), NONE);
        piece(x, 0, 1, 0);
        x.begin(9);
        due("none", x.judge(), -2);
        x.go(1);
        due("all are DONE", x.judge(), -2);
        due("it tells nothing", x.count(8), 0);
    }
}
