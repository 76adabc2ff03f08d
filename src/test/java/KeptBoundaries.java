import java.util.List;

/** The boundary cases of the promises 39 to 42, and of what refused calls leave as it is. */
final class KeptBoundaries extends Sentences {
    private static final int[] NO_NUMBERS = {-1, 3, Integer.MIN_VALUE, Integer.MAX_VALUE};

    @Says(promise = 39, value = "THE STATE and THE BOOK are kept under a number 0 .. 2: true. Refused: others.")
    void keepNumbers() {
        FollowTheSun x = two();
        piece(x, 0, 20, 0);
        x.begin(9);
        for (int i = 0; i < 3; i++) {
            x.go(1);
            due("keep " + i, x.keep(i), true);
        }
        for (int i : NO_NUMBERS) {
            due("keep " + i, x.keep(i), false);
        }
        for (int i = 2; i >= 0; i--) {
            due("again " + i, x.again(i), true);
            due("LEFT", x.of(0, 1), 19 - i);
            due("NOW", x.count(2), 10 + i);
        }
        x.go(5);
        due("keep anew", x.keep(1), true);
        due("the others stay", x.again(2), true);
        due("NOW", x.count(2), 12);
        due("the new one", x.again(1), true);
        due("NOW", x.count(2), 15);
    }

    @Says(promise = 39, value = "THE STATE and THE BOOK are kept under a number 0 .. 2: true. Refused: others.")
    void keepsAllOfIt() {
        FollowTheSun x = StateBoundaries.full();
        List<Long> before = seen(x);
        x.keep(2);
        x.hand(1, 0);
        x.go(200);
        x.begin(50);
        x.again(2);
        dueSame("again", seen(x), before);
        x.begin(50);
        x.set(1, 77);
        x.hand(0, 1);
        x.set(1, 10);
        x.again(2);
        dueSame("the WRONG that was kept", seen(x), before);
        x.hand(0, 0);
        x.hand(0, 1);
        x.go(7);
        x.again(2);
        dueSame("again, twice", seen(x), before);
    }

    @Says(promise = 40, value = "They are as they were kept under a number. Refused: nothing kept, a PIECE was told since.")
    void againRefused() {
        FollowTheSun x = two();
        for (int i = 0; i < 3; i++) {
            due("nothing kept", x.again(i), false);
        }
        due("keep without pieces", x.keep(0), true);
        x.go(5);
        due("again without pieces", x.again(0), true);
        due("NOW", x.count(2), 0);
        due("nothing kept under 1", x.again(1), false);
        for (int i : NO_NUMBERS) {
            due("again " + i, x.again(i), false);
        }
        piece(x, 0, 1, 0);
        x.go(3);
        due("a piece was told since", x.again(0), false);
        due("NOW stays", x.count(2), 3);
        due("keep", x.keep(1), true);
        due("a refused piece is none", x.piece(6, 0, 0, 0, NONE), NONE);
        x.go(3);
        due("again", x.again(1), true);
        due("NOW", x.count(2), 3);
        due("the older one is refused still", x.again(0), false);
        plain(x, 0, 8);
        due("an office was told since", x.again(1), true);
    }

    @Says(promise = 41, value = "NONE for another what.")
    void countWhat() {
        FollowTheSun x = new FollowTheSun();
        for (int what = 0; what <= 9; what++) {
            due("count(" + what + ")", x.count(what), 0);
        }
        for (int what : new int[] {-1, 10, Integer.MIN_VALUE, Integer.MAX_VALUE}) {
            due("count(" + what + ")", x.count(what), NONE);
        }
    }

    @Says(promise = 41, value = "3: PIECES DONE (bits)")
    void countDone() {
        FollowTheSun x = new FollowTheSun();
        x.office(0, 8, 1, 639);
        for (int i = 0; i < 8; i++) {
            piece(x, 0, i % 2 + 1, 0);
        }
        due("none", x.count(3), 0);
        x.go(1);
        due("those of one hour", x.count(3), 0x55);
        x.go(1);
        due("all eight", x.count(3), 255);
    }

    @Says(promise = 42, value = "Number i of the ROW. NoSuchElementException: none such.")
    void rowBounds() {
        FollowTheSun x = two();
        dueThrow("none told", () -> x.row(0));
        dueThrow("none told", () -> x.row(-1));
        for (int i = 0; i < 8; i++) {
            piece(x, 0, 1, 0);
        }
        x.begin(9);
        x.ends();
        due("the longest", x.count(8), 11);
        due("the first", x.row(0), 10);
        due("the last", x.row(10), 80);
        for (int i : new int[] {-1, 11, Integer.MIN_VALUE, Integer.MAX_VALUE}) {
            dueThrow("row(" + i + ")", () -> x.row(i));
        }
        x.one(0, 9, 0);
        due("a shorter one", x.row(0), 0);
        dueThrow("what was there is no more", () -> x.row(1));
        x.one(0, 9, 9);
        due("a refused call leaves it", x.count(8), 1);
    }

    @Says("Refused calls answer NONE, or false, and change nothing but THE TEXT, which a call that reads it empties.")
    void refusedChangeNothing() {
        FollowTheSun x = StateBoundaries.full();
        x.dark(0, 0);
        List<Long> row = rowOf(x);
        due("office", x.office(-1, 8, 1, 65), NONE);
        due("clock", x.clock(0, 9, 2), false);
        due("feast", x.feast(0, 100, true), false);
        due("know", x.know(0, 1, 10), NONE);
        due("sheet", x.sheet(0, 0, 7, 9, 0), NONE);
        due("sheet", x.sheet(0, 0, -1, 9, 0), -2);
        due("set", x.set(0, 21), NONE);
        due("dark", x.dark(6, 0), NONE);
        due("piece", x.piece(6, 61, 0, 0, NONE), NONE);
        due("end", x.end(4), false);
        due("begin", x.begin(2400), false);
        due("go", x.go(501), NONE);
        due("hand", x.hand(0, 3), NONE);
        due("one", x.one(0, 9, 4), NONE);
        due("cheap", x.cheap(0, 9, 3, 20), NONE);
        due("edge", x.edge(0, 9, 0), NONE);
        due("lie", x.lie(3, 9), NONE);
        due("homes", x.homes(8, 9), NONE);
        due("pair", x.pair(0, 1, 5), NONE);
        due("whom", x.whom(1000, 9), NONE);
        due("worth", x.worth(2400), NONE);
        due("wrong", x.wrong(9), NONE);
        due("mean", x.mean(100), NONE);
        due("site", x.site(17, 65, 0, 9), NONE);
        due("together", x.together(3, 9), NONE);
        due("sleeps", x.sleeps(0, 100), NONE);
        due("worst", x.worst(0, 1, 0), NONE);
        due("march", x.march(0, 2400), NONE);
        due("keep", x.keep(3), false);
        due("again", x.again(0), false);
        dueSame("the row", rowOf(x), row);
        dueSame("all else", seen(x), seen(StateBoundaries.full()));
    }

    @Says("Refused calls answer NONE, or false, and change nothing but THE TEXT, which a call that reads it empties.")
    void theTextIsEmptied() {
        FollowTheSun x = two();
        piece(x, 0, 1, 0);
        write(x, "n+5");
        due("signs", x.count(9), 3);
        due("read", x.rule(), 0);
        due("empty", x.count(9), 0);
        write(x, "n+");
        due("read, refused", x.rule(), -3);
        due("empty", x.count(9), 0);
        due("THE RULE stays", x.value(0, 1), 6);
        for (int i = 0; i < 15; i++) {
            x.sign(0x6b2b6b2b);
        }
        due("refused", x.sign(0), NONE);
        due("not empty", x.count(9), 60);
        due("read, too long", x.rule(), -41);
        due("empty", x.count(9), 0);
    }

    /** Six offices that are alike, eight pieces at the last, nine pairs, a rule of 40 signs. */
    private static FollowTheSun allFull() {
        FollowTheSun x = new FollowTheSun();
        for (int i = 0; i < 6; i++) {
            x.office(0, 16, 1, 639);
        }
        for (int i = 0; i < 8; i++) {
            piece(x, 5, 2, 5);
        }
        for (int i = 0; i < 9; i++) {
            x.pair(i < 5 ? 5 : 4, i < 5 ? i : i - 5, 99);
        }
        rule(x, "-".repeat(39) + "n");
        return x;
    }

    @Says("PIECES 0 .. (at most 8)")
    void allIsFull() {
        FollowTheSun x = allFull();
        due("value", x.value(7, 5), -5);
        due("dark", x.dark(5, 0), 8);
        dueRow(x, 16, 6, 0);
        due("sheet", x.sheet(5, 2, 6, 4, 1), 4 + 5 + 6 + 7 + 8);
        due("ends", x.ends(), 2);
        dueRow(x, 2, 2, 2, 2, 2, 2, 2, 2, 0, 0, 16);
        due("judge", x.judge(), -2);
        due("one", x.one(7, 0, 3), 2);
        dueRow(x, 0);
        due("cheap", x.cheap(7, 0, 2, 2), 2);
        dueRow(x, 0);
        due("edge", x.edge(7, 0, 3), 0);
        dueRow(x, 2);
        due("lie", x.lie(7, 0), 0);
        dueRow(x, 2, 0);
        due("homes", x.homes(240, 0), 2);
        dueRow(x, 0, 0, 0, 0);
        due("whom", x.whom(999, 0), 2);
        dueRow(x, 0, 0);
        due("worth", x.worth(0), 0);
        dueRow(x, 0, 0, 0, 0, 0, 0, 0, 0, 0);
        due("site", x.site(16, 639, 9, 0), NONE);
        due("together", x.together(5, 0), 2);
        dueRow(x, 2, 2, 2, 2, 2, 2, 2, 2, 0, 0, 16);
        due("worst", x.worst(5, 0, 99), 0);
        dueRow(x, 26);
        due("sleeps", x.sleeps(5, 0), 24);
        due("march", x.march(5, 0), 0);
    }

    @Says("PIECES 0 .. (at most 8)")
    void allIsFullOnTheWay() {
        FollowTheSun x = allFull();
        x.begin(15);
        x.go(1);
        // All are handed to the first, as 0 is more than -1 .. -5: four LOST, five LEFT.
        for (int i = 0; i < 8; i++) {
            due("where", x.of(i, 0), 0);
            due("LEFT", x.of(i, 1), 5);
        }
        due("HANDINGS", x.count(5), 8);
        due("hours LOST", x.count(6), 32);
        due("PAY", x.count(7), 8);
        due("kept", x.mean(10), 8);
        dueRow(x, 8, 1);
        due("ends", x.ends(), 29);
        dueRow(x, 29, 29, 29, 29, 29, 29, 29, 29, 0, 0, 40);
        x.go(500);
        due("DONE", x.count(3), 255);
    }

    @Says("An object is used for at most 512 calls after it has been made")
    void manyCalls() {
        FollowTheSun x = two();
        piece(x, 0, 60, 0);
        x.set(0, 20);
        // Two offices, a piece and LOSE are four calls; each handing is 22 LOST.
        for (int i = 0; i < 504; i++) {
            x.hand(0, 1 - i % 2);
        }
        due("HANDINGS", x.of(0, 6), 504);
        due("LEFT", x.of(0, 1), 60 + 504 * 22);
        due("hours LOST", x.count(6), 504 * 22);
        due("it does not end", x.ends(), -2);
    }
}
