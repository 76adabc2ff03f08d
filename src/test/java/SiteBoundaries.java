/** The boundary cases of the promises 34 to 38: offices to be opened, all in one, days slept on. */
final class SiteBoundaries extends Sentences {
    @Says(promise = 34, value = "NONE: others, 6 OFFICES, no PIECES. Nothing changes.")
    void siteRefused() {
        FollowTheSun x = two();
        due("no pieces", x.site(8, 65, 0, 9), NONE);
        piece(x, 0, 10, 0);
        for (int length : new int[] {0, 17, -1, Integer.MIN_VALUE, Integer.MAX_VALUE}) {
            due("LONG " + length, x.site(length, 65, 0, 9), NONE);
        }
        for (int pc : new int[] {0, 63, 64, 128, 640, 641, -1, Integer.MIN_VALUE, Integer.MAX_VALUE}) {
            due("pc " + pc, x.site(8, pc, 0, 9), NONE);
        }
        for (int v : new int[] {-1, 10, Integer.MIN_VALUE, Integer.MAX_VALUE}) {
            due("v " + v, x.site(8, 65, v, 9), NONE);
        }
        for (int h : NO_HOURS) {
            due("hour " + h, x.site(8, 65, 0, h), NONE);
        }
        due("it tells nothing", x.count(8), 0);
        dueNot("LONG 1, v 0", x.site(1, 65, 0, 9), NONE);
        dueNot("LONG 16, v 9", x.site(16, 639, 9, 9), NONE);
        for (int i = 2; i < 5; i++) {
            plain(x, 0, 8);
        }
        dueNot("5 offices", x.site(8, 65, 0, 9), NONE);
        plain(x, 0, 8);
        due("6 offices", x.site(8, 65, 0, 9), NONE);
    }

    @Says(promise = 34, value = "of ZONES 0 .. 23 that with which ends(), begun at an HOUR, is the soonest; of equal ones the least")
    void siteZones() {
        // One LEFT as the other closes; a site of LONG 2 must meet it in its last hour, or 2 are LOST.
        int[] froms = {0, 1, 2, 3, 16, 17};
        int[] zones = {2, 1, 0, 23, 10, 9};
        for (int i = 0; i < froms.length; i++) {
            FollowTheSun x = new FollowTheSun();
            x.office(froms[i], 8, 1, 65);
            piece(x, 0, 9, 0);
            rule(x, "n");
            x.set(0, 0);
            due("beside " + froms[i], x.site(2, 65, 0, froms[i]), zones[i]);
            dueRow(x, froms[i] + 9, froms[i] + 25);
        }
        FollowTheSun y = two();
        piece(y, 0, 10, 0);
        due("without a rule all are equal", y.site(8, 65, 0, 9), 0);
        dueRow(y, 35, 35);
    }

    @Says(promise = 34, value = "An OFFICE more (FROM 9, LONG, PEOPLE and CRAFTS as told, its number behind the others)")
    void siteAsTold() {
        FollowTheSun x = two();
        piece(x, 5, 3, 0);
        piece(x, 5, 3, 0);
        rule(x, "n=2");
        // Handed behind 16; with v 9 nothing is LOST if it meets office 0 in 17 .. 40.
        due("one of its people", x.site(16, 64 + 32, 9, 9), 0);
        dueRow(x, 23, NONE);
        due("two of them", x.site(16, 128 + 32, 9, 9), 0);
        dueRow(x, 20, NONE);
        // 17 .. 19, and 40 .. 42, for six hours; by zone 18 as soon, by zone 16 it is apart.
        due("four LONG", x.site(4, 64 + 32, 9, 9), 17);
        dueRow(x, 43, NONE);
        due("v 3", x.site(16, 128 + 32, 3, 9), 0);
        dueRow(x, 21, NONE);
        due("none of its craft", x.site(16, 64 + 31, 9, 9), -2);
        dueRow(x, 21, NONE);
    }

    @Says(promise = 34, value = "the ROW: the HOUR, the HOUR without it (NONE: not by 2399). -2: by none")
    void siteByTheLastHour() {
        FollowTheSun x = late(9);
        due("by 2399", x.site(8, 65, 0, 2376), 0);
        dueRow(x, LAST, LAST);
        FollowTheSun y = late(10);
        due("by none", y.site(8, 65, 0, 2376), -2);
        due("it tells nothing", y.count(8), 0);
        FollowTheSun z = new FollowTheSun();
        plain(z, 0, 8);
        piece(z, 0, 17, 0);
        rule(z, "n");
        // Nine LEFT at 2360; by zone 1 it is apart, by zone 2 they meet at 2383.
        due("not without it", z.site(16, 65, 9, 2352), 2);
        dueRow(z, 2369, NONE);
    }

    @Says(promise = 34, value = "NONE: others, 6 OFFICES, no PIECES. Nothing changes.")
    void siteChangesNothing() {
        FollowTheSun x = StateBoundaries.full();
        x.site(16, 639, 9, 9);
        dueSame("behind it", seen(x), seen(StateBoundaries.full()));
        due("no office more", x.open(3, 9), NONE);
        plain(x, 0, 8);
        due("the next one is not known", x.know(3, 0, 1), 0);
        due("the next one is not known", x.know(3, 2, 1), 0);
        due("its hours are its own", x.overlap(3, 3, 0), 8);
    }

    @Says(promise = 35, value = "which has all six CRAFTS, and as many PEOPLE as all OFFICES together (9 at most)")
    void togetherPeople() {
        int[][] people = {{1, 1, 2}, {1, 2, 3}, {4, 4, 8}, {4, 5, 8}, {9, 9, 8}};
        for (int[] p : people) {
            FollowTheSun x = new FollowTheSun();
            x.office(0, 16, 1, 64 * p[0] + 1);
            x.office(0, 16, 1, 64 * p[1] + 2);
            for (int i = 0; i < 8; i++) {
                piece(x, i % 6, 1, 0);
            }
            due("all six crafts", x.together(0, 0), (8 + p[2] - 1) / p[2]);
            due("at the other", x.together(1, 0), (8 + p[2] - 1) / p[2]);
        }
        FollowTheSun y = new FollowTheSun();
        y.office(0, 16, 1, 64 + 1);
        piece(y, 5, 1, 0);
        due("crafts", y.together(0, 0), 1);
        due("they are as they were", y.ends(), -2);
    }

    @Says(promise = 35, value = "THE RULE is none, none ASKS: ends(), begun at an HOUR; the ROW: as ends().")
    void togetherAlone() {
        FollowTheSun x = two();
        x.piece(6, 10, 0, 1, 1);
        x.piece(6, 2, 1, 1, 1);
        rule(x, "n");
        x.begin(9);
        x.go(25);
        due("at 0", x.together(0, 9), 37);
        dueRow(x, 35, 37, 0, 0, 120);
    }

    @Says(promise = 35, value = "-2, NONE likewise. Nothing changes.")
    void togetherBounds() {
        due("no pieces", two().together(0, 9), NONE);
        FollowTheSun x = late(9);
        due("by 2399", x.together(0, 2376), LAST);
        dueRow(x, LAST, 0, 0, 9);
        for (int h : NO_HOURS) {
            due("hour " + h, x.together(0, h), NONE);
        }
        for (int o : new int[] {-1, 1, Integer.MIN_VALUE, Integer.MAX_VALUE}) {
            due("office " + o, x.together(o, 2376), NONE);
        }
        FollowTheSun y = late(10);
        due("not by 2399", y.together(0, 2376), -2);
        due("it tells nothing", y.count(8), 0);
        FollowTheSun z = StateBoundaries.full();
        z.together(0, 9);
        dueSame("behind it", seen(z), seen(StateBoundaries.full()));
    }

    @Says(promise = 36, value = "by how much ends() is later (from NOW; below 0: sooner)")
    void sleepsFromNow() {
        FollowTheSun x = two();
        piece(x, 0, 10, 0);
        x.begin(9);
        due("day 0", x.sleeps(0, 0), 24);
        due("day 1", x.sleeps(0, 1), 24);
        due("day 2", x.sleeps(0, 2), 0);
        x.go(8);
        due("day 0 is over", x.sleeps(0, 0), 0);
        x.go(18);
        due("all are DONE", x.sleeps(0, 1), 0);
        FollowTheSun y = two();
        piece(y, 0, 10, 0);
        rule(y, "n*(r<9)+s*!b");
        y.set(0, 20);
        y.begin(9);
        due("sooner", y.sleeps(1, 1), 35 - 77);
    }

    @Says(promise = 36, value = "-9998: it is a FEAST already")
    void sleepsOnAFeast() {
        FollowTheSun x = two();
        x.feast(0, 3, true);
        due("no pieces goes first", x.sleeps(0, 3), NONE);
        piece(x, 0, 1, 0);
        due("a feast", x.sleeps(0, 3), -9998);
        due("not of the other", x.sleeps(1, 3), 0);
        due("not the day ahead", x.sleeps(0, 2), 0);
        due("it is one still", x.sleeps(0, 3), -9998);
        due("what sleeps is none", x.sleeps(0, 2), 0);
        piece(x, 5, 1, 0);
        due("also if it does not end", x.sleeps(0, 3), -9998);
    }

    @Says(promise = 36, value = "-9999: one of both does not end by 2399")
    void sleepsNoEnd() {
        FollowTheSun x = two();
        piece(x, 0, 8, 0);
        x.begin(2376);
        due("not with it", x.sleeps(0, 99), -9999);
        x.begin(2352);
        due("both end", x.sleeps(0, 98), 24);
        x.begin(2386);
        due("neither ends", x.sleeps(0, 5), -9999);
        FollowTheSun y = two();
        piece(y, 0, 9, 0);
        rule(y, "n*(r<9)");
        y.set(0, 20);
        y.begin(2361);
        // Handed for 22 more it does not end; as office 1 sleeps, it stays, DONE by 2386.
        due("not without it", y.ends(), -2);
        due("not without it", y.sleeps(1, 99), -9999);
        y.feast(1, 99, true);
        due("with it", y.ends(), 2386);
    }

    @Says(promise = 36, value = "NONE: others, no PIECES. Nothing changes.")
    void sleepsRefused() {
        due("no pieces", two().sleeps(0, 0), NONE);
        FollowTheSun x = StateBoundaries.full();
        for (int day : new int[] {-1, 100, Integer.MIN_VALUE, Integer.MAX_VALUE}) {
            due("day " + day, x.sleeps(0, day), NONE);
        }
        dueNot("day 0", x.sleeps(0, 0), NONE);
        dueNot("day 99", x.sleeps(0, 99), NONE);
        for (int day = 0; day < 6; day++) {
            x.sleeps(day % 3, day);
        }
        dueSame("behind it", seen(x), seen(StateBoundaries.full()));
    }

    @Says(promise = 37, value = "Of DAYS from one to another that on which an OFFICE sleeping on it makes ends() the latest")
    void worstDays() {
        FollowTheSun x = two();
        piece(x, 0, 10, 0);
        x.begin(9);
        due("of equal ones the first", x.worst(0, 0, 99), 0);
        dueRow(x, 59);
        due("the last of them", x.worst(0, 1, 1), 1);
        dueRow(x, 59);
        due("behind them", x.worst(0, 2, 99), 2);
        dueRow(x, 35);
        due("the last day", x.worst(0, 99, 99), 99);
        dueRow(x, 35);
        x.feast(1, 0, true);
        due("of the other", x.worst(1, 0, 0), -2);
        FollowTheSun y = two();
        piece(y, 0, 9, 0);
        y.feast(0, 2, true);
        y.begin(9);
        // Asleep on day 1 it goes on at 81; on day 0 as well.
        due("the first of the latest", y.worst(0, 0, 2), 0);
        dueRow(y, 82);
        y.go(8);
        due("the later one", y.worst(0, 0, 2), 1);
        dueRow(y, 82);
    }

    @Says(promise = 37, value = "such that are no FEAST, and with which it ends")
    void worstThatEnds() {
        FollowTheSun x = two();
        piece(x, 0, 8, 0);
        x.begin(2352);
        due("98", x.worst(0, 97, 99), 98);
        dueRow(x, 2393);
        x.feast(0, 98, true);
        due("97 alone", x.worst(0, 97, 99), 97);
        dueRow(x, 2393);
        due("none", x.worst(0, 98, 99), -2);
        dueRow(x, 2393);
    }

    @Says(promise = 37, value = "-2: none; NONE: others, no PIECES, from above to. Nothing changes.")
    void worstRefused() {
        due("no pieces", two().worst(0, 0, 0), NONE);
        FollowTheSun x = StateBoundaries.full();
        due("from above to", x.worst(0, 2, 1), NONE);
        due("from is to", x.worst(0, 2, 2), 2);
        for (int day : new int[] {-1, 100, Integer.MIN_VALUE, Integer.MAX_VALUE}) {
            due("from " + day, x.worst(0, day, 50), NONE);
            due("to " + day, x.worst(0, 50, day), NONE);
        }
        dueNot("0 to 99", x.worst(0, 0, 99), NONE);
        dueSame("behind it", seen(x), seen(StateBoundaries.full()));
        FollowTheSun y = two();
        piece(y, 5, 1, 0);
        due("none ends", y.worst(0, 0, 3), -2);
        due("it tells nothing", y.count(8), 0);
    }

    @Says(promise = 38, value = "If the CLOCK of an OFFICE was put by 1 from an HOUR on (instead of how it is): by how much ends() is later (from NOW).")
    void marchFrom() {
        FollowTheSun x = two();
        piece(x, 0, 10, 0);
        x.begin(9);
        // 9 .. 16, then from 32 on instead of 33.
        due("from 17 on", x.march(0, 17), -1);
        due("from 16 on one is left out", x.march(0, 16), 0);
        due("from 32 on", x.march(0, 32), -1);
        due("from 33 on: 34 and 35", x.march(0, 33), 0);
        due("from 0 on: 9 .. 15", x.march(0, 0), 0);
        due("too late", x.march(0, 35), 0);
        x.clock(0, 0, 1);
        due("as it is", x.march(0, 0), 0);
        x.clock(0, 17, -1);
        // 9 .. 17, then from 34 on: DONE by 35; put forward from 17 on: by 34.
        due("instead of it", x.march(0, 17), -1);
        due("from another hour on", x.march(0, 0), 0);
        due("its clock stays", x.open(0, 9), 1);
        due("its clock stays", x.open(0, 17), 1);
        due("its clock stays", x.open(0, 33), 0);
        FollowTheSun y = two();
        piece(y, 0, 8, 0);
        y.begin(9);
        due("later", y.march(0, 10), 32 + 1 - 17);
    }

    @Says(promise = 38, value = "-9999: one of both does not end; NONE: others, no PIECES. Nothing changes.")
    void marchBounds() {
        due("no pieces", two().march(0, 0), NONE);
        FollowTheSun x = late(9);
        x.begin(2376);
        due("both end", x.march(0, 2376), -1);
        FollowTheSun w = new FollowTheSun();
        plain(w, 14, 9);
        piece(w, 0, 9, 0);
        w.begin(2390);
        // Nine hours to 2398; put forward within, there are eight.
        due("without it", w.ends(), LAST);
        due("not with it", w.march(0, 2391), -9999);
        FollowTheSun y = late(10);
        y.begin(2376);
        due("not without it", y.march(0, 2376), -9999);
        y.clock(0, 2376, 1);
        due("with it", y.ends(), LAST);
        y.begin(LAST);
        due("neither", y.march(0, 0), -9999);
        FollowTheSun z = StateBoundaries.full();
        for (int h : NO_HOURS) {
            due("hour " + h, z.march(2, h), NONE);
        }
        z.march(2, 40);
        z.march(0, 40);
        dueSame("behind it", seen(z), seen(StateBoundaries.full()));
    }
}
