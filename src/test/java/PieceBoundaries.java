/** The boundary cases of promise 12 and of what the terms say of pieces. */
final class PieceBoundaries extends Sentences {
    @Says(promise = 12, value = "of: 6 times EVERY, and CRAFT")
    void everyAndCraft() {
        FollowTheSun x = new FollowTheSun();
        for (int craft = 0; craft < 6; craft++) {
            x.office(0, 8, 1, 64 + (1 << craft));
        }
        for (int bad : new int[] {0, 5, 366, -1, -6, Integer.MIN_VALUE, Integer.MAX_VALUE}) {
            due("of " + bad, x.piece(bad, 1, 0, 0, NONE), NONE);
        }
        // EVERY 1, CRAFT 0; EVERY 1, CRAFT 5; EVERY 60, CRAFT 0; EVERY 60, CRAFT 5.
        due("of 6", x.piece(6, 60, 0, 0, 1), 0);
        due("of 11", x.piece(11, 60, 0, 5, 1), 1);
        due("of 360", x.piece(360, 60, 0, 0, 1), 2);
        due("of 365", x.piece(365, 60, 0, 5, 1), 3);
        due("none of craft 0 elsewhere", x.piece(6, 60, 0, 1, 1), 4);
        x.go(1);
        due("EVERY 1", x.of(0, 3), 1);
        due("EVERY 1, CRAFT 5", x.of(1, 3), 1);
        due("no craft", x.of(4, 5), 0);
        x.go(3);
        due("EVERY 60", x.of(2, 3), 0);
        due("EVERY 60, CRAFT 5", x.of(3, 3), 0);
    }

    @Says("EVERY 1 .. 60")
    void everySixty() {
        FollowTheSun x = new FollowTheSun();
        plain(x, 0, 16);
        plain(x, 0, 16);
        x.piece(6 * 60, 60, 0, 0, 1);
        due("so that it has 64 hours", x.hand(0, 1), 4);
        x.go(83);
        due("59 hours", x.of(0, 2), 59);
        due("it does not ask yet", x.of(0, 3), 0);
        x.go(1);
        due("60 hours", x.of(0, 5), 60);
        due("it asks", x.of(0, 3), 1);
        due("since", x.of(0, 2), 0);
    }

    @Says(promise = 12, value = "Refused: others, 8.")
    void length() {
        FollowTheSun x = two();
        for (int bad : new int[] {0, 61, -1, Integer.MIN_VALUE, Integer.MAX_VALUE}) {
            due("LENGTH " + bad, x.piece(6, bad, 0, 0, NONE), NONE);
        }
        due("LENGTH 1", x.piece(6, 1, 0, 0, NONE), 0);
        due("LENGTH 60", x.piece(6, 60, 0, 0, NONE), 1);
        due("LEFT 1", x.of(0, 1), 1);
        due("LEFT 60", x.of(1, 1), 60);
    }

    @Says("AFTER (bits of PIECES that were told ahead)")
    void after() {
        FollowTheSun x = two();
        for (int number = 0; number < 8; number++) {
            for (int bad : new int[] {1 << number, (1 << number + 1) - 1, -1, Integer.MIN_VALUE, Integer.MAX_VALUE}) {
                due("AFTER " + bad, x.piece(6, 1, bad, 0, NONE), NONE);
            }
            due("after all ahead", x.piece(6, 1, (1 << number) - 1, 0, NONE), number);
        }
        x.begin(9);
        for (int i = 0; i < 8; i++) {
            due("one behind the other", x.of(i, 8), i == 0 ? 1 : 0);
        }
        due("all are worked", x.ends(), 17);
        dueRow(x, 10, 11, 12, 13, 14, 15, 16, 17, 0, 0, 80);
    }

    @Says("BORN (an OFFICE), ASKS (an OFFICE, or NONE)")
    void bornAndAsks() {
        FollowTheSun x = two();
        for (int bad : new int[] {-1, 2, Integer.MIN_VALUE, Integer.MAX_VALUE}) {
            due("BORN " + bad, x.piece(6, 1, 0, bad, NONE), NONE);
        }
        for (int bad : new int[] {-2, 2, Integer.MIN_VALUE, Integer.MAX_VALUE}) {
            due("ASKS " + bad, x.piece(6, 1, 0, 0, bad), NONE);
        }
        due("NONE", x.piece(6, 2, 0, 1, NONE), 0);
        due("its own", x.piece(6, 2, 0, 1, 1), 1);
        due("the first", x.piece(6, 2, 0, 1, 0), 2);
        due("where it is", x.of(0, 0), 1);
    }

    @Says(promise = 12, value = "Refused: others, 8.")
    void eight() {
        FollowTheSun x = two();
        for (int i = 0; i < 8; i++) {
            due("number", piece(x, 0, 1, 0), i);
        }
        due("one more", piece(x, 0, 1, 0), NONE);
        due("count", x.count(1), 8);
        dueThrow("of", () -> x.of(8, 0));
        x.begin(9);
        due("ends", x.ends(), 17);
        due("numbers of the row", x.count(8), 11);
    }

    @Says(promise = 12, value = "A PIECE more")
    void toldOnTheWay() {
        FollowTheSun x = two();
        piece(x, 0, 1, 0);
        x.begin(9);
        x.go(5);
        due("number", x.piece(6, 2, 1, 0, NONE), 1);
        int[] first = {0, 2, 0, 0, NONE, 0, 0, 0, 1};
        for (int what = 0; what <= 8; what++) {
            due("of(1, " + what + ")", x.of(1, what), first[what]);
        }
        due("THE BOOK goes on", x.count(7), 10);
        due("ends", x.ends(), 16);
        dueRow(x, 10, 16, 0, 0, 20);
    }
}
