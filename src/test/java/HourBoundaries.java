/** The boundary cases of the second term: how an hour goes by, and THE BOOK. */
final class HourBoundaries extends Sentences {
    @Says("NOW (an HOUR, at first 0), of each PIECE where it is (at first BORN), LEFT (at first LENGTH)")
    void stateAtFirst() {
        FollowTheSun x = two();
        x.piece(6 * 60, 60, 0, 1, 0);
        int[] first = {1, 60, 0, 0, NONE, 0, 0, 0, 1};
        due("NOW", x.count(2), 0);
        for (int what = 0; what <= 8; what++) {
            due("of(0, " + what + ")", x.of(0, what), first[what]);
        }
    }

    @Says("READY: not DONE, all AFTER are.")
    void readyAllAfter() {
        FollowTheSun x = two();
        piece(x, 0, 1, 0);
        piece(x, 0, 1, 0);
        x.piece(6, 1, 3, 1, NONE);
        x.begin(9);
        due("none of them is DONE", x.of(2, 8), 0);
        due("without AFTER", x.of(0, 8), 1);
        x.go(1);
        due("one of them is DONE", x.of(2, 8), 0);
        due("DONE", x.of(0, 8), 0);
        x.go(1);
        due("all of them are DONE", x.of(2, 8), 1);
    }

    @Says("AN HOUR goes by (NOW, at most 2399)")
    void hourAtMost() {
        FollowTheSun x = late(9);
        x.begin(2390);
        due("to the last", x.go(9), LAST);
        due("DONE by it", x.of(0, 4), LAST);
        FollowTheSun y = late(10);
        y.begin(2390);
        y.go(500);
        due("the last hour does not go by", y.of(0, 1), 1);
        due("it is not DONE", y.of(0, 4), NONE);
        due("NOW", y.count(2), LAST);
    }

    @Says("PIECES in order that were READY as it began")
    void readyAsItBegan() {
        FollowTheSun x = new FollowTheSun();
        x.office(0, 8, 1, 64 * 9 + 63);
        piece(x, 0, 1, 0);
        x.piece(6, 1, 1, 0, NONE);
        x.go(1);
        due("the first is DONE", x.of(0, 4), 1);
        due("the one behind it was not worked in that hour", x.of(1, 1), 1);
        x.go(1);
        due("but in the next", x.of(1, 4), 2);
    }

    @Says("PIECES in order that were READY as it began")
    void inOrder() {
        FollowTheSun x = two();
        piece(x, 0, 3, 0);
        piece(x, 0, 3, 0);
        x.begin(9);
        x.go(3);
        due("the first goes ahead", x.of(0, 4), 12);
        due("the second waits for people", x.of(1, 1), 3);
    }

    @Says("one that WAITS: if its OFFICE and that which it ASKS are both AT WORK, it WAITS no more.")
    void waitsTillBoth() {
        FollowTheSun x = new FollowTheSun();
        plain(x, 0, 4);
        plain(x, 3, 4);
        x.piece(6, 2, 0, 0, 1);
        x.go(3);
        due("its own alone", x.of(0, 3), 1);
        x.go(1);
        due("both", x.of(0, 3), 0);
        due("not worked in that hour", x.of(0, 1), 1);
        x.begin(3);
        x.go(1);
        due("it asks at the end of an hour", x.of(0, 3), 1);
        x.go(3);
        due("the one it asks alone", x.of(0, 3), 1);
        x.go(20);
        due("its own alone, on the next day", x.of(0, 3), 1);
        x.go(1);
        due("both again", x.of(0, 3), 0);
        due("NOW", x.count(2), 28);
    }

    @Says("one that WAITS: if its OFFICE and that which it ASKS are both AT WORK, it WAITS no more.")
    void waitsForItsOwn() {
        FollowTheSun x = two();
        x.piece(6, 3, 0, 0, 0);
        x.begin(15);
        x.go(1);
        due("it waits", x.of(0, 3), 1);
        x.go(1);
        due("it asks its own office, which is AT WORK", x.of(0, 3), 0);
        due("not worked in that hour", x.of(0, 5), 1);
    }

    @Says("if its OFFICE is AT WORK, has its CRAFT, and fewer than PEOPLE PIECES were worked there in this HOUR")
    void fewerThanPeople() {
        for (int people = 1; people <= 9; people++) {
            FollowTheSun x = new FollowTheSun();
            x.office(0, 8, 1, 64 * people + 1);
            for (int i = 0; i < 8; i++) {
                piece(x, 0, 2, 0);
            }
            x.go(1);
            due(people + " people", x.count(7), Math.min(people, 8));
            for (int i = 0; i < 8; i++) {
                due(people + " people, piece " + i, x.of(i, 5), i < people ? 1 : 0);
            }
        }
    }

    @Says("if its OFFICE is AT WORK, has its CRAFT, and fewer than PEOPLE PIECES were worked there in this HOUR")
    void waitingTakesNoPeople() {
        FollowTheSun x = two();
        x.piece(6, 2, 0, 0, 1);
        piece(x, 0, 9, 0);
        piece(x, 5, 9, 0);
        x.begin(9);
        x.go(1);
        due("the first is worked", x.of(0, 3), 1);
        x.go(1);
        due("as it waits, the second is", x.of(1, 5), 1);
        due("the third has no craft there", x.of(2, 5), 0);
        x.begin(17);
        x.go(4);
        due("not AT WORK", x.count(7), 0);
    }

    @Says("is LEFT 0, it is DONE by the next HOUR; else, if it ASKS and SINCE is EVERY, it WAITS, and SINCE is 0.")
    void doneBeforeAsking() {
        FollowTheSun x = two();
        x.piece(6 * 3, 3, 0, 0, 1);
        x.begin(9);
        x.go(3);
        due("DONE by", x.of(0, 4), 12);
        due("it does not wait", x.of(0, 3), 0);
        due("since stays", x.of(0, 2), 3);
        FollowTheSun y = two();
        y.piece(6 * 3, 4, 0, 0, 1);
        y.begin(9);
        y.go(2);
        due("less than EVERY", y.of(0, 3), 0);
        due("since", y.of(0, 2), 2);
        y.go(1);
        due("it waits", y.of(0, 3), 1);
        due("since is 0", y.of(0, 2), 0);
        due("it is not done", y.of(0, 4), NONE);
    }

    @Says("is LEFT 0, it is DONE by the next HOUR; else, if it ASKS and SINCE is EVERY, it WAITS, and SINCE is 0.")
    void noneAsked() {
        FollowTheSun x = two();
        x.piece(6 * 2, 9, 0, 0, NONE);
        x.begin(9);
        x.go(5);
        due("it does not ask", x.of(0, 3), 0);
        due("since grows", x.of(0, 2), 5);
    }

    @Says("PIECES in order that were READY as it began and are not DONE")
    void handedIfReady() {
        FollowTheSun x = two();
        piece(x, 0, 8, 0);
        x.piece(6, 9, 1, 0, NONE);
        piece(x, 0, 9, 0);
        rule(x, "n");
        x.begin(9);
        x.go(8);
        due("one that is DONE stays", x.of(0, 0), 0);
        due("one that was not READY stays", x.of(1, 0), 0);
        due("though it is READY now", x.of(1, 8), 1);
        due("one that was not worked goes", x.of(2, 0), 1);
        due("handings", x.count(5), 1);
    }

    @Says("whose OFFICE was AT WORK in this HOUR and is not in the next one")
    void handedAsItCloses() {
        FollowTheSun x = two();
        piece(x, 0, 60, 0);
        rule(x, "n");
        x.begin(9);
        x.go(7);
        due("it is AT WORK in the next", x.of(0, 0), 0);
        x.go(1);
        due("it closes", x.of(0, 0), 1);
        x.begin(17);
        x.go(16);
        due("it was not AT WORK", x.of(0, 0), 0);
        due("NOW", x.count(2), 33);
    }

    @Says("whose OFFICE was AT WORK in this HOUR and is not in the next one")
    void handedAheadOfTheLastHour() {
        FollowTheSun x = new FollowTheSun();
        plain(x, 14, 9);
        plain(x, 0, 8);
        piece(x, 0, 60, 0);
        rule(x, "n");
        x.begin(2398);
        x.go(1);
        due("it is not AT WORK in 2399", x.of(0, 0), 1);
        FollowTheSun y = new FollowTheSun();
        plain(y, 14, 10);
        plain(y, 0, 8);
        piece(y, 0, 60, 0);
        rule(y, "n");
        y.begin(2390);
        y.go(500);
        due("2399 does not go by", y.of(0, 0), 0);
    }

    @Says("it goes to the OFFICE with the greatest value (of equal ones the first; without a RULE it stays)")
    void greatestValue() {
        FollowTheSun x = new FollowTheSun();
        for (int i = 0; i < 4; i++) {
            plain(x, 0, 8);
        }
        piece(x, 0, 60, 2);
        String[] rules = {"", "5", "n", "-n", "n=1|n=3", "n=3", "0-999*999*999", "s"};
        int[] goes = {2, 0, 3, 0, 1, 3, 0, 2};
        for (int i = 0; i < rules.length; i++) {
            rule(x, rules[i]);
            x.begin(0);
            x.go(8);
            due(rules[i], x.of(0, 0), goes[i]);
        }
    }

    @Says("of an OFFICE that a PIECE could go to from where it is, from the next HOUR on")
    void ruleFromTheNextHour() {
        FollowTheSun x = new FollowTheSun();
        plain(x, 0, 8);
        plain(x, 7, 1);
        plain(x, 9, 1);
        plain(x, 8, 1);
        piece(x, 0, 60, 0);
        rule(x, "w");
        x.go(8);
        due("the one AT WORK at 8", x.of(0, 0), 3);
    }

    /** Office 0 closes behind hour 0; it meets office 1 at 0, 24, 48 .. */
    private static FollowTheSun closing() {
        FollowTheSun x = new FollowTheSun();
        plain(x, 0, 1);
        plain(x, 0, 16);
        piece(x, 0, 60, 0);
        rule(x, "n");
        return x;
    }

    @Says("of an OFFICE that a PIECE could go to from where it is, from the next HOUR on")
    void lostFromTheNextHour() {
        FollowTheSun x = closing();
        x.go(1);
        due("they meet in 1 .. 24", x.of(0, 7), 4);
        FollowTheSun y = closing();
        y.feast(0, 1, true);
        y.go(1);
        due("they met at 0, not in 1 .. 24", y.of(0, 7), 6);
        FollowTheSun z = closing();
        z.clock(0, 10, -1);
        z.go(1);
        due("they meet at 25, not in 1 .. 24", z.of(0, 7), 6);
    }

    @Says("if that is another one, it is HANDED: LEFT grows by LOST.")
    void handedToAnother() {
        FollowTheSun x = two();
        piece(x, 0, 20, 0);
        rule(x, "s");
        x.begin(9);
        x.go(8);
        due("its own", x.of(0, 6), 0);
        due("LEFT", x.of(0, 1), 12);
        rule(x, "n");
        x.begin(9);
        x.go(8);
        due("another", x.of(0, 6), 1);
        due("LEFT has grown", x.of(0, 1), 18);
        due("none is kept of its own", x.mean(1), 1);
    }

    @Says("THE BOOK of what went by since begin()")
    void bookSinceBegin() {
        FollowTheSun x = two();
        piece(x, 0, 20, 0);
        due("ahead of any begin()", x.go(10), 10);
        due("hours worked", x.of(0, 5), 1);
        due("PAY", x.count(7), 10);
        x.hand(0, 1);
        x.begin(9);
        due("hours worked then", x.of(0, 5), 0);
        due("HANDINGS", x.count(5), 0);
        due("hours LOST", x.count(6), 0);
        due("PAY then", x.count(7), 0);
        due("none is kept", x.mean(1), 0);
    }

    @Says("the WRONG of each HANDING (at most 60 are kept, the first ones)")
    void sixtyKept() {
        FollowTheSun x = two();
        piece(x, 0, 1, 0);
        x.set(1, 1);
        for (int i = 0; i < 59; i++) {
            x.hand(0, 1 - i % 2);
        }
        due("59", x.mean(1), 59);
        x.set(1, 50);
        x.hand(0, 0);
        due("60", x.mean(1), 60);
        dueRow(x, 109, 100);
        x.set(1, 100);
        x.hand(0, 1);
        due("61", x.mean(1), 60);
        dueRow(x, 109, 100);
        due("the sixtieth", x.riskiest(), 59);
        dueRow(x, 50);
        due("all HANDINGS count", x.count(5), 61);
    }

    @Says("Fractions are told in lowest terms, upper and lower number (0 by 1).")
    void lowestTerms() {
        FollowTheSun x = two();
        piece(x, 0, 1, 0);
        x.set(1, 0);
        x.hand(0, 1);
        x.wrong(1);
        dueRow(x, 0, 1);
        x.wrong(0);
        dueRow(x, 1, 1);
        x.mean(99);
        dueRow(x, 0, 1);
        x.set(1, 50);
        x.hand(0, 0);
        x.wrong(1);
        dueRow(x, 1, 2);
        x.mean(2);
        dueRow(x, 1, 1);
        x.mean(99);
        dueRow(x, 99, 2);
    }

    @Says("ROW: numbers told last by a call that says so.")
    void rowToldLast() {
        FollowTheSun x = two();
        piece(x, 0, 10, 0);
        x.dark(0, 0);
        x.begin(9);
        x.go(8);
        x.open(0, 0);
        x.overlap(0, 1, 0);
        x.sleeps(0, 1);
        x.march(0, 0);
        x.hand(0, 1);
        x.keep(0);
        x.again(0);
        due("calls that tell none leave it", x.count(8), 3);
        dueRow(x, 5, 1, 0);
        x.one(0, 9, 0);
        dueRow(x, 0);
    }
}
