import java.util.NoSuchElementException;
import java.util.Random;

/**
 * Calls with any numbers in any state: nothing may come out of them but answers and, of value(),
 * of() and row(), NoSuchElementException; what only asks may change nothing that is kept.
 */
public final class WildTest {
    private static final int[] EDGES = {
        Integer.MIN_VALUE, Integer.MIN_VALUE + 1, -9999, -65, -2, -1, 0, 1, 2, 3, 4, 5, 6, 7, 8, 9, 15, 16, 17, 23, 24, 39,
        40, 41, 59, 60, 61, 63, 64, 65, 67, 99, 100, 101, 255, 256, 365, 366, 400, 401, 500, 501, 575, 576, 639, 640, 999,
        1000, 2375, 2398, 2399, 2400, 65535, Integer.MAX_VALUE - 23, Integer.MAX_VALUE - 1, Integer.MAX_VALUE
    };
    private static int wrong = 0;

    private final Random random;
    private final FollowTheSun x = new FollowTheSun();

    private WildTest(long seed) {
        random = new Random(seed);
    }

    private int any() {
        int kind = random.nextInt(20);
        return kind == 0 ? random.nextInt() : kind < 3 ? EDGES[random.nextInt(EDGES.length)] : random.nextInt(4);
    }

    private int hour() {
        int kind = random.nextInt(10);
        return kind == 0 ? any() : kind == 1 ? random.nextInt(2400) : kind == 2 ? 2399 - random.nextInt(50) : random.nextInt(99);
    }

    private int upTo(int n) {
        return random.nextInt(20) == 0 ? any() : random.nextInt(n);
    }

    private long offices(int which) {
        switch (which) {
            case 0: return x.office(upTo(576), upTo(17), upTo(100), 64 + upTo(576));
            case 1: return x.clock(any(), hour(), upTo(3) - 1) ? 1 : 0;
            case 2: return x.feast(any(), any(), random.nextBoolean()) ? 1 : 0;
            case 3: return x.know(any(), any(), any());
            case 4: return x.sheet(any(), any(), any(), any(), any());
            case 5: return x.set(any(), any());
            case 6: return x.open(any(), hour());
            case 7: return x.overlap(any(), any(), hour());
            case 8: return x.loses(any(), any(), hour());
            case 9: return x.dark(any(), hour());
            default: return x.piece(upTo(366), upTo(61), random.nextBoolean() ? 0 : any(), any(), upTo(7) - 1);
        }
    }

    private long state(int which) {
        switch (which) {
            case 11: return x.sign(any());
            case 12: return x.end(any()) ? 1 : 0;
            case 13: return x.rule();
            case 14: return x.value(any(), any());
            case 15: return x.begin(hour()) ? 1 : 0;
            case 16: return x.go(any());
            case 17: return x.of(any(), any());
            case 18: return x.hand(any(), any());
            case 19: return x.ends();
            case 20: return x.judge();
            default: return write();
        }
    }

    private long write() {
        String s = new String[] {"99-r", "c*100-l", "n", "k+l*o-w*r+c*s-b*q+p*f-n", "!!--(((((k)))))", "r-99"}[random.nextInt(6)];
        x.end(0);
        for (int i = 0; i < s.length(); i += 4) {
            int v = 0;
            for (int j = 0; j < 4; j++) {
                v = v << 8 | (i + j < s.length() ? s.charAt(i + j) : 0);
            }
            x.sign(v);
        }
        x.end(s.length());
        return x.rule();
    }

    private long questions(int which) {
        switch (which) {
            case 22: return x.one(any(), hour(), any());
            case 23: { int h = hour(); return x.cheap(any(), h, any(), random.nextBoolean() ? h + upTo(402) : any()); }
            case 24: return x.edge(any(), hour(), any());
            case 25: return x.lie(any(), hour());
            case 26: return x.homes(random.nextBoolean() ? any() : upTo(256), hour());
            case 27: return x.pair(any(), any(), any());
            case 28: return x.whom(any(), hour());
            case 29: return x.worth(hour());
            case 30: return x.wrong(any());
            case 31: return x.mean(any());
            case 32: return x.riskiest();
            case 33: return x.site(upTo(17), 64 + upTo(576), any(), hour());
            case 34: return x.together(any(), hour());
            case 35: return x.sleeps(any(), any());
            case 36: return x.worst(any(), any(), any());
            case 37: return x.march(any(), hour());
            case 38: return x.keep(any()) ? 1 : 0;
            case 39: return x.again(any()) ? 1 : 0;
            case 40: return x.count(any());
            default: return x.row(any());
        }
    }

    /** Whatever can be seen of the object but its ROW. */
    private long seen() {
        long sum = 17;
        for (int what = 0; what <= 9; what++) {
            sum = sum * 31 + (what == 8 ? 0 : x.count(what));
        }
        for (int p = 0; p < x.count(1); p++) {
            for (int what = 0; what <= 8; what++) {
                sum = sum * 31 + x.of(p, what);
            }
        }
        for (int a = 0; a < x.count(0); a++) {
            for (int b = 0; b < x.count(0); b++) {
                sum = sum * 31 + x.loses(a, b, 0) + x.overlap(a, b, 2399);
            }
            for (int h = 0; h < 2400; h += 7) {
                sum = sum * 31 + x.open(a, h);
            }
        }
        return sum;
    }

    private void call() {
        int which = random.nextInt(42);
        boolean asksOnly = which >= 22 && which <= 37 && which != 27;
        boolean looks = asksOnly && random.nextInt(8) == 0;
        long ahead = looks ? seen() : 0;
        try {
            if (which <= 10) {
                offices(which);
            } else if (which <= 21) {
                state(which);
            } else {
                questions(which);
            }
        } catch (NoSuchElementException e) {
            if (which != 14 && which != 17 && which != 41) {
                wrong++;
                System.out.println("call " + which + " threw " + e);
            }
        } catch (RuntimeException e) {
            wrong++;
            System.out.println("call " + which + " threw " + e);
        }
        if (looks && ahead != seen()) {
            wrong++;
            System.out.println("call " + which + " changed something");
        }
    }

    public static void main(String[] args) {
        int runs = args.length > 0 ? Integer.parseInt(args[0]) : 120;
        for (int seed = 1; seed <= runs; seed++) {
            WildTest test = new WildTest(seed);
            for (int i = 0; i < seed % 9; i++) {
                test.offices(0);
            }
            for (int i = 0; i < seed % 10; i++) {
                test.offices(10);
            }
            for (int i = 0; i < 480; i++) {
                test.call();
            }
        }
        System.out.println(wrong == 0 ? "nothing but answers in " + runs + " runs" : wrong + " calls are wrong");
        if (wrong != 0) {
            System.exit(1);
        }
    }
}
