/** The boundary cases of the promises 1 to 11: offices. */
final class OfficeBoundaries extends Sentences {
    @Says(promise = 1, value = "No OFFICES.")
    void newObject() {
        FollowTheSun x = new FollowTheSun();
        due("count", x.count(0), 0);
        due("open", x.open(0, 0), NONE);
        due("dark", x.dark(0, 0), NONE);
        due("piece", x.piece(6, 1, 0, 0, NONE), NONE);
        due("feast", x.feast(0, 0, true), false);
        due("ends", x.ends(), NONE);
        due("homes", x.homes(1, 0), NONE);
        due("go", x.go(1), 1);
    }

    @Says(promise = 2, value = "times: 24 times ZONE, and FROM")
    void times() {
        int[] good = {0, 23, 24, 575};
        int[] begins = {0, 23, 23, 0};
        for (int i = 0; i < good.length; i++) {
            FollowTheSun x = new FollowTheSun();
            due("times " + good[i], x.office(good[i], 1, 1, 65), 0);
            due("it begins", x.open(0, begins[i]), 1);
            due("then alone", x.overlap(0, 0, 0), 1);
        }
        FollowTheSun x = new FollowTheSun();
        for (int bad : new int[] {-1, 576, Integer.MIN_VALUE, Integer.MAX_VALUE}) {
            due("times " + bad, x.office(bad, 1, 1, 65), NONE);
        }
        due("count", x.count(0), 0);
    }

    @Says(promise = 2, value = "pc: 64 times PEOPLE, and CRAFTS")
    void peopleAndCrafts() {
        FollowTheSun x = new FollowTheSun();
        for (int bad : new int[] {0, 1, 63, 64, 128, 9 * 64, 640, 641, 703, -1, -63, Integer.MIN_VALUE, Integer.MAX_VALUE}) {
            due("pc " + bad, x.office(0, 8, 1, bad), NONE);
        }
        int[] good = {65, 127, 129, 9 * 64 + 1, 639};
        for (int i = 0; i < good.length; i++) {
            due("pc " + good[i], x.office(0, 8, 1, good[i]), i);
        }
        due("with craft 5", x.dark(5, 0), 16);
        dueRow(x, 8, 2, 0);
        due("with craft 0", x.dark(0, 0), 16);
        dueRow(x, 8, 5, 0);
    }

    @Says(promise = 2, value = "Refused: others, 6.")
    void longAndPay() {
        FollowTheSun x = new FollowTheSun();
        for (int bad : new int[] {0, 17, -1, Integer.MIN_VALUE, Integer.MAX_VALUE}) {
            due("LONG " + bad, x.office(0, bad, 1, 65), NONE);
        }
        for (int bad : new int[] {0, 100, -1, Integer.MIN_VALUE, Integer.MAX_VALUE}) {
            due("PAY " + bad, x.office(0, 1, bad, 65), NONE);
        }
        due("LONG 1, PAY 1", x.office(0, 1, 1, 65), 0);
        due("LONG 16, PAY 99", x.office(0, 16, 99, 65), 1);
        due("the shortest", x.overlap(0, 0, 0), 1);
        due("the longest", x.overlap(1, 1, 0), 16);
        piece(x, 0, 1, 1);
        x.go(1);
        due("the dearest", x.count(7), 99);
    }

    @Says(promise = 2, value = "Refused: others, 6.")
    void sixOffices() {
        FollowTheSun x = new FollowTheSun();
        for (int i = 0; i < 6; i++) {
            due("number", x.office(0, 1, 1, 65), i);
        }
        due("one more", x.office(0, 1, 1, 65), NONE);
        due("count", x.count(0), 6);
        due("the most at once", x.dark(0, 0), 23);
        dueRow(x, 1, 6, 0);
    }

    @Says(promise = 3, value = "The CLOCK of an OFFICE is put by so much (-1, 0, 1) from an HOUR on: true. Refused: others.")
    void clockBy() {
        FollowTheSun x = two();
        due("by -1", x.clock(0, 0, -1), true);
        for (int by : new int[] {-2, 2, Integer.MIN_VALUE, Integer.MAX_VALUE}) {
            due("by " + by, x.clock(0, 0, by), false);
        }
        due("as it was", x.open(0, 17), 1);
        due("by 0", x.clock(0, 0, 0), true);
        due("at 17", x.open(0, 17), 0);
        due("by 1", x.clock(0, 0, 1), true);
        due("at 8", x.open(0, 8), 1);
        due("from the last hour on", x.clock(0, LAST, 1), true);
        due("at 8, ahead of it", x.open(0, 8), 0);
        due("from 2400 on", x.clock(0, 2400, 0), false);
        due("from -1 on", x.clock(0, -1, 0), false);
    }

    @Says(promise = 4, value = "A DAY is a FEAST of an OFFICE, or not: true. Refused: others.")
    void feastOrNot() {
        FollowTheSun x = two();
        due("not, as it is", x.feast(0, 0, false), true);
        due("at 9", x.open(0, 9), 1);
        due("a feast", x.feast(0, 0, true), true);
        due("a feast again", x.feast(0, 0, true), true);
        due("at 9, a feast", x.open(0, 9), 0);
        due("not", x.feast(0, 0, false), true);
        due("at 9, none", x.open(0, 9), 1);
        for (int day : new int[] {-1, 100, Integer.MIN_VALUE, Integer.MAX_VALUE}) {
            due("day " + day, x.feast(0, day, true), false);
            due("day " + day, x.feast(0, day, false), false);
        }
        due("day 99", x.feast(0, 99, true), true);
        due("on it", x.open(0, 2385), 0);
        due("ahead of it", x.open(0, 2361), 1);
    }

    @Says(promise = 4, value = "A DAY is a FEAST of an OFFICE, or not: true. Refused: others.")
    void feastAndClock() {
        for (int by = -1; by <= 1; by++) {
            FollowTheSun x = new FollowTheSun();
            x.office(24 * 5 + 20, 16, 1, 65);
            x.clock(0, 0, by);
            // On day 1 it begins at LOCAL 44, hour 39 less what the clock is put by.
            int begin = 39 - by;
            due("the hour ahead of it", x.open(0, begin - 1), 0);
            due("its first hour", x.open(0, begin), 1);
            x.feast(0, 1, true);
            due("the stint ahead", x.open(0, begin - 9), 1);
            due("the first hour", x.open(0, begin), 0);
            due("the last hour", x.open(0, begin + 15), 0);
            due("the stint behind", x.open(0, begin + 24), 1);
            due("no hour", x.overlap(0, 0, begin), 0);
            x.feast(0, 1, false);
            due("all hours", x.overlap(0, 0, begin), 16);
        }
    }

    @Says(promise = 5, value = "KNOWN of two unlike OFFICES becomes v: what it was. Refused: others.")
    void knowUnlike() {
        FollowTheSun x = two();
        due("0 .. 9", x.know(0, 1, 9), 0);
        due("one and itself", x.know(0, 0, 9), NONE);
        due("one and itself", x.know(1, 1, 0), NONE);
        for (int v : new int[] {-1, 10, Integer.MIN_VALUE, Integer.MAX_VALUE}) {
            due("v " + v, x.know(0, 1, v), NONE);
        }
        due("as it was", x.know(1, 0, 0), 9);
        due("0", x.know(1, 0, 0), 0);
    }

    /** Three offices, of which each pair knows 5 of one another. */
    private static FollowTheSun three() {
        FollowTheSun x = two();
        x.office(9, 8, 10, 65);
        x.know(0, 1, 5);
        x.know(0, 2, 5);
        x.know(1, 2, 5);
        return x;
    }

    @Says(promise = 6, value = "of bytes, shorts the lowest bits, with their sign")
    void sheetBits() {
        // Of office 0 there is one entry for office 1 alone: f + step.
        int[][] cases = {
            {0, 127, 9}, {0, 128, 0}, {0, 255, 0}, {0, 256, 0}, {0, 263, 7}, {0, -249, 7}, {0, -1, 0},
            {1, 127, 9}, {1, 128, 9}, {1, 32767, 9}, {1, 32768, 0}, {1, 65535, 0}, {1, 65543, 7}, {1, -65529, 7},
            {2, 32768, 9}, {2, 65536, 9}, {2, Integer.MAX_VALUE, 9}, {2, Integer.MIN_VALUE, 0}, {2, 7, 7}};
        for (int[] c : cases) {
            FollowTheSun x = two();
            due("kind " + c[0] + " of " + c[1], x.sheet(0, c[0], 2, 0, c[1]), c[2]);
            due("both ways", x.know(1, 0, 0), c[2]);
        }
    }

    @Says(promise = 6, value = "below 0: 0, above 9: 9")
    void sheetBounds() {
        int[] entries = {-1, 0, 1, 8, 9, 10};
        int[] known = {0, 0, 1, 8, 9, 9};
        for (int kind = 0; kind <= 2; kind++) {
            for (int i = 0; i < entries.length; i++) {
                FollowTheSun x = two();
                due("kind " + kind + " of " + entries[i], x.sheet(1, kind, 1, entries[i], 0), known[i]);
            }
        }
    }

    @Says(promise = 6, value = "n entries f, f + step, ..")
    void sheetEntries() {
        FollowTheSun x = three();
        due("2, 4, 6 of office 0", x.sheet(0, 2, 3, 2, 2), 10);
        due("to 1", x.know(0, 1, 4), 4);
        due("to 2", x.know(0, 2, 6), 6);
        due("1 to 2 stays", x.know(1, 2, 5), 5);
        // 2147483647, then -2147483648: it comes round.
        due("come round", x.sheet(0, 2, 2, Integer.MAX_VALUE, 1), 6);
        due("to 1", x.know(0, 1, 4), 0);
        // Twice the step is 2 to the 32nd: 3, .., 3.
        due("the step comes round", x.sheet(0, 2, 3, 3, Integer.MIN_VALUE), 3);
        due("to 2", x.know(0, 2, 0), 3);
        FollowTheSun y = three();
        due("of office 2", y.sheet(2, 2, 6, 9, -1), 17);
        due("its own entry is left out", y.know(2, 1, 8), 8);
    }

    @Says(promise = 6, value = "KNOWN of an OFFICE to OFFICES 0, 1, .. (all that there are; itself left out)")
    void sheetTooFewOrMany() {
        FollowTheSun x = three();
        due("no entries", x.sheet(0, 2, 0, 9, 0), 10);
        due("its own alone", x.sheet(0, 2, 1, 9, 0), 10);
        due("one of both", x.sheet(0, 2, 2, 9, 0), 14);
        due("as many as offices", x.sheet(0, 2, 3, 9, 0), 18);
        due("six", x.sheet(0, 2, 6, 8, 0), 16);
        due("1 to 2 stays", x.know(1, 2, 5), 5);
        plain(x, 0, 8);
        due("a later office is not known", x.know(0, 3, 0), 0);
        FollowTheSun y = new FollowTheSun();
        plain(y, 0, 8);
        due("no others", y.sheet(0, 2, 6, 9, 0), 0);
    }

    @Says(promise = 6, value = "or a missing one (3): all 0.")
    void sheetMissing() {
        for (int n : new int[] {0, 1, 6, -1, Integer.MIN_VALUE}) {
            FollowTheSun x = three();
            due("n " + n, x.sheet(0, 3, n, 9, 9), 0);
            due("to 1", x.know(0, 1, 1), 0);
            due("to 2", x.know(2, 0, 1), 0);
            due("1 to 2 stays", x.know(1, 2, 1), 5);
        }
    }

    @Says(promise = 6, value = "-2: n below 0 (of kinds 0 .. 2; nothing changes).")
    void sheetBelowZero() {
        FollowTheSun x = three();
        for (int kind = 0; kind <= 2; kind++) {
            due("n -1", x.sheet(0, kind, -1, 9, 9), -2);
            due("n far below", x.sheet(0, kind, Integer.MIN_VALUE, 9, 9), -2);
        }
        due("nothing changes", x.know(0, 1, 5), 5);
        due("nothing changes", x.know(0, 2, 5), 5);
    }

    @Says(promise = 6, value = "NONE: others, n above 6 (these first).")
    void sheetRefused() {
        FollowTheSun x = three();
        for (int kind = 0; kind <= 3; kind++) {
            due("n 7", x.sheet(0, kind, 7, 0, 0), NONE);
            due("n far above", x.sheet(0, kind, Integer.MAX_VALUE, 0, 0), NONE);
        }
        for (int kind : new int[] {-1, 4, Integer.MIN_VALUE, Integer.MAX_VALUE}) {
            due("kind " + kind, x.sheet(0, kind, 1, 0, 0), NONE);
            due("kind " + kind + ", n below 0", x.sheet(0, kind, -1, 0, 0), NONE);
        }
        due("office 3, n below 0", x.sheet(3, 0, -1, 0, 0), NONE);
        due("office -1, n below 0", x.sheet(-1, 0, -1, 0, 0), NONE);
        due("nothing changes", x.know(0, 1, 5), 5);
        due("nothing changes", x.know(0, 2, 5), 5);
    }

    @Says(promise = 7, value = "LOSE (what 0), MISS (1) becomes v: what it was. Refused: others.")
    void setRefused() {
        FollowTheSun x = two();
        for (int v : new int[] {-1, 21, 100, Integer.MIN_VALUE, Integer.MAX_VALUE}) {
            due("LOSE " + v, x.set(0, v), NONE);
        }
        for (int v : new int[] {-1, 101, Integer.MIN_VALUE, Integer.MAX_VALUE}) {
            due("MISS " + v, x.set(1, v), NONE);
        }
        for (int what : new int[] {-1, 2, Integer.MIN_VALUE, Integer.MAX_VALUE}) {
            due("what " + what, x.set(what, 0), NONE);
        }
        due("LOSE as it was", x.set(0, 20), 4);
        due("MISS as it was", x.set(1, 21), 10);
        due("one leaves the other", x.set(0, 0), 20);
        due("one leaves the other", x.set(1, 0), 21);
    }

    @Says(promise = 8, value = "Whether an OFFICE is AT WORK at an HOUR: 1, 0. NONE: others.")
    void openAtWork() {
        FollowTheSun x = two();
        due("8", x.open(0, 8), 0);
        due("9", x.open(0, 9), 1);
        due("16", x.open(0, 16), 1);
        due("17", x.open(0, 17), 0);
        due("on the last day", x.open(0, 2392), 1);
        due("behind it", x.open(0, 2393), 0);
        due("2399", x.open(1, LAST), 1);
        due("2400", x.open(1, 2400), NONE);
        due("-1", x.open(1, -1), NONE);
        due("office 2", x.open(2, 0), NONE);
    }

    @Says(promise = 9, value = "OVERLAP of two OFFICES from an HOUR on. NONE: others.")
    void overlapEdges() {
        FollowTheSun x = new FollowTheSun();
        plain(x, 0, 16);
        plain(x, 15, 16);
        plain(x, 16, 8);
        due("one hour and seven over midnight", x.overlap(0, 1, 0), 8);
        due("side by side", x.overlap(0, 2, 0), 0);
        due("itself", x.overlap(0, 0, 7), 16);
        due("office 3", x.overlap(0, 3, 0), NONE);
        due("hour 2400", x.overlap(0, 1, 2400), NONE);
    }

    @Says(promise = 9, value = "OVERLAP of two OFFICES from an HOUR on.")
    void overlapHourByHour() {
        for (int begin = 0; begin + 150 <= LAST; begin += 126) {
            FollowTheSun x = new FollowTheSun();
            plain(x, 0, 16);
            plain(x, 7, 10);
            x.clock(0, begin + 60, 1);
            x.clock(1, begin + 70, -1);
            x.feast(0, begin / 24 + 2, true);
            x.feast(1, begin / 24 + 5, true);
            boolean[] both = new boolean[150];
            for (int i = 0; i < both.length; i++) {
                both[i] = x.open(0, begin + i) == 1 && x.open(1, begin + i) == 1;
            }
            for (int i = 0; i + 24 <= both.length; i++) {
                int n = 0;
                for (int j = i; j < i + 24; j++) {
                    n += both[j] ? 1 : 0;
                }
                due("from " + (begin + i), x.overlap(0, 1, begin + i), n);
            }
        }
    }

    @Says(promise = 10, value = "LOST from one OFFICE to another one from an HOUR on (0 of one and itself). NONE: others.")
    void losesOfItself() {
        FollowTheSun x = two();
        x.set(0, 20);
        due("itself", x.loses(0, 0, 0), 0);
        x.feast(0, 0, true);
        due("itself, never AT WORK then", x.loses(0, 0, 0), 0);
        due("another", x.loses(0, 1, 0), 22);
        due("office 2 and itself", x.loses(2, 2, 0), NONE);
        due("hour 2400", x.loses(0, 0, 2400), NONE);
    }

    @Says(promise = 11, value = "The HOURS of 24 from one on in which no OFFICE with a CRAFT is AT WORK: how many")
    void darkOfTwentyFour() {
        FollowTheSun x = new FollowTheSun();
        plain(x, 0, 16);
        x.feast(0, 1, true);
        due("0 .. 23", x.dark(0, 0), 8);
        dueRow(x, 16, 1, 0);
        due("1 .. 24", x.dark(0, 1), 9);
        dueRow(x, 16, 1, 1);
        due("16 .. 39", x.dark(0, 16), 24);
        dueRow(x, 16, 0, 16);
        due("25 .. 48", x.dark(0, 25), 23);
        dueRow(x, 25, 1, 48);
    }

    @Says(promise = 11, value = "the first of them (NONE), the most that are AT WORK in one HOUR, that HOUR (the first)")
    void darkNone() {
        FollowTheSun x = new FollowTheSun();
        x.office(0, 16, 1, 65);
        x.office(14, 16, 1, 65);
        due("none is dark", x.dark(0, 8), 0);
        dueRow(x, NONE, 2, 14);
        due("all are dark", x.dark(1, 8), 24);
        dueRow(x, 8, 0, 8);
        x.office(0, 16, 1, 66);
        due("those with the craft alone", x.dark(0, 8), 0);
        dueRow(x, NONE, 2, 14);
    }

    @Says(promise = 11, value = "NONE: others, no OFFICES.")
    void darkRefused() {
        due("no offices", new FollowTheSun().dark(0, 0), NONE);
        FollowTheSun x = two();
        due("craft 0", x.dark(0, 0), 8);
        due("craft 5", x.dark(5, 0), 24);
        for (int craft : new int[] {-1, 6, Integer.MIN_VALUE, Integer.MAX_VALUE}) {
            due("craft " + craft, x.dark(craft, 9), NONE);
        }
        dueRow(x, 0, 0, 0);
    }
}
