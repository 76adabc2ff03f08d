import java.util.NoSuchElementException;
import java.util.Random;

/**
 * Long runs of calls by a fixed seed on FollowTheSun and on PlainSun side by side: each answer, and
 * behind it the whole ROW, the counts and each piece's state must be the same.
 */
public final class AgreementTest {
    private static final String SIGNS = "klowrcsbqpfn";
    private static int wrong = 0;
    private static int calls = 0;
    private static final int[] asked = new int[44];
    private static final int[] told = new int[44];

    private final Random random;
    private final FollowTheSun x = new FollowTheSun();
    private final PlainSun y = new PlainSun();
    private final StringBuilder log = new StringBuilder();
    private final long seed;
    private boolean failed = false;

    private AgreementTest(long seed) {
        this.seed = seed;
        this.random = new Random(seed);
    }

    private int r(int a, int b) { return a + random.nextInt(b - a + 1); }
    private boolean chance(int inHundred) { return random.nextInt(100) < inHundred; }

    private void same(int which, String call, long got, long due) {
        calls++;
        asked[which]++;
        if (due != -1) told[which]++;
        log.append(call).append(" -> ").append(due).append('\n');
        if (got != due) {
            fault(call + " answered " + got + ", due is " + due);
            return;
        }
        int n = y.count(8);
        for (int what = 0; what <= 9 && !failed; what++) {
            if (x.count(what) != y.count(what)) {
                fault("behind " + call + " count(" + what + ") is " + x.count(what) + ", due is " + y.count(what));
            }
        }
        for (int i = 0; i < n && !failed; i++) {
            if (x.row(i) != y.row(i)) {
                fault("behind " + call + " row(" + i + ") is " + x.row(i) + ", due is " + y.row(i));
            }
        }
        for (int p = 0; p < y.count(1) && !failed; p++) {
            for (int what = 0; what <= 8 && !failed; what++) {
                if (x.of(p, what) != y.of(p, what)) {
                    fault("behind " + call + " of(" + p + ", " + what + ") is " + x.of(p, what) + ", due is " + y.of(p, what));
                }
            }
        }
    }

    private void fault(String what) {
        wrong++;
        failed = true;
        System.out.println("seed " + seed + ": " + what);
        if (wrong <= 3) {
            System.out.println(log);
        }
    }

    // Mostly what is there, now and then what is not.
    private int off() { int n = y.count(0); return n == 0 || chance(3) ? r(-1, 6) : r(0, n - 1); }
    private int pce() { int n = y.count(1); return n == 0 || chance(3) ? r(-1, 8) : r(0, n - 1); }

    private int hour() {
        if (chance(4)) return new int[] {-1, 2400, 2399, 2398, 2376, 0, Integer.MIN_VALUE, Integer.MAX_VALUE}[r(0, 7)];
        return chance(8) ? r(2300, 2399) : chance(20) ? r(0, 2399) : r(0, 80);
    }

    private int day() { return chance(4) ? new int[] {-1, 100, 99, 0}[r(0, 3)] : chance(10) ? r(0, 99) : r(0, 8); }

    private void office() {
        int times = chance(3) ? r(-2, 600) : r(0, 575);
        int length = chance(3) ? r(-1, 18) : r(4, 12);
        int pay = chance(3) ? r(-1, 101) : chance(30) ? r(1, 4) : r(1, 99);
        int crafts = chance(50) ? 63 : r(1, 63);
        int pc = chance(3) ? r(-3, 700) : 64 * r(1, chance(30) ? 9 : 2) + crafts;
        same(2, "office(" + times + ", " + length + ", " + pay + ", " + pc + ")", x.office(times, length, pay, pc), y.office(times, length, pay, pc));
    }

    private void piece() {
        int of = chance(3) ? r(-7, 380) : 6 * (chance(60) ? r(1, 9) : r(1, 60)) + (chance(80) ? r(0, 1) : r(0, 5));
        int length = chance(3) ? r(-1, 62) : chance(70) ? r(1, 20) : r(1, 60);
        int n = y.count(1);
        int after = chance(3) ? r(-1, 300) : chance(60) ? 0 : r(0, (1 << n) - 1) & r(0, (1 << n) - 1);
        int born = off();
        int asks = chance(55) ? -1 : chance(3) ? -2 : off();
        same(12, "piece(" + of + ", " + length + ", " + after + ", " + born + ", " + asks + ")", x.piece(of, length, after, born, asks), y.piece(of, length, after, born, asks));
    }

    private String expression(int depth) {
        int kind = depth <= 0 ? r(0, 1) : r(0, 9);
        if (kind <= 1) return chance(70) ? String.valueOf(SIGNS.charAt(r(0, 11))) : String.valueOf(r(0, chance(20) ? 999 : 99));
        if (kind == 2) return "(" + expression(depth - 1) + ")";
        if (kind == 3) return (chance(50) ? "!" : "-") + expression(depth - 1);
        return expression(depth - 1) + "|&<>=+-*+-*".charAt(r(0, 10)) + expression(depth - 1);
    }

    private void text(String s) {
        same(14, "end(0)", x.end(0) ? 1 : 0, y.end(0) ? 1 : 0);
        for (int i = 0; i < s.length(); i += 4) {
            int v = 0;
            for (int j = 0; j < 4; j++) v = v << 8 | (i + j < s.length() ? s.charAt(i + j) & 255 : r(0, 255));
            same(13, "sign(" + v + ")", x.sign(v), y.sign(v));
        }
        int n = s.length();
        same(14, "end(" + n + ") of " + s, x.end(n) ? 1 : 0, y.end(n) ? 1 : 0);
        if (chance(3)) {
            int m = r(-2, 62);
            same(14, "end(" + m + ")", x.end(m) ? 1 : 0, y.end(m) ? 1 : 0);
        }
        same(15, "rule() of " + s, x.rule(), y.rule());
    }

    private void rule() {
        String s = expression(r(0, 4));
        if (chance(35)) s = new String[] {"99-r", "c*100-l", "c*(50-r)-l", "w*9+k", "c*100-p", "n", "-n", "q*9+b*3+w", "c&w", "s", "99-r+c*100-l*3", "o*k-l", "f>9|s", "!s", "k-o", "r"}[r(0, 15)];
        if (chance(10)) {
            char[] c = s.toCharArray();
            c[r(0, c.length - 1)] = chance(50) ? "()!-<1&".charAt(r(0, 6)) : (char) r(0, 255);
            s = new String(c);
        }
        if (chance(5)) s = s + "+" + expression(4) + "*" + expression(4);
        if (chance(4)) s = "";
        text(s.length() > 60 ? s.substring(0, 60) : s);
    }

    private void value() {
        int p = pce();
        int o = off();
        long a;
        long b;
        try { a = x.value(p, o); } catch (NoSuchElementException e) { a = Long.MAX_VALUE; }
        try { b = y.value(p, o); } catch (NoSuchElementException e) { b = Long.MAX_VALUE; }
        same(16, "value(" + p + ", " + o + ")", a, b);
    }

    private void of() {
        int p = r(-1, 9);
        int what = r(-1, 9);
        long a;
        long b;
        try { a = x.of(p, what); } catch (NoSuchElementException e) { a = Long.MAX_VALUE; }
        try { b = y.of(p, what); } catch (NoSuchElementException e) { b = Long.MAX_VALUE; }
        same(19, "of(" + p + ", " + what + ")", a, b);
    }

    private void row() {
        int i = r(-1, 12);
        long a;
        long b;
        try { a = x.row(i); } catch (NoSuchElementException e) { a = Long.MAX_VALUE; }
        try { b = y.row(i); } catch (NoSuchElementException e) { b = Long.MAX_VALUE; }
        same(42, "row(" + i + ")", a, b);
    }

    private void callOffices(int which) {
        int a = off(), b = off(), h = hour(), d = day(), v = chance(4) ? r(-2, 12) : r(0, 9);
        switch (which) {
            case 3: { int by = chance(3) ? r(-3, 3) : r(-1, 1);
                same(3, "clock(" + a + ", " + h + ", " + by + ")", x.clock(a, h, by) ? 1 : 0, y.clock(a, h, by) ? 1 : 0); break; }
            case 4: { boolean is = chance(70);
                same(4, "feast(" + a + ", " + d + ", " + is + ")", x.feast(a, d, is) ? 1 : 0, y.feast(a, d, is) ? 1 : 0); break; }
            case 5: same(5, "know(" + a + ", " + b + ", " + v + ")", x.know(a, b, v), y.know(a, b, v)); break;
            case 6: { int kind = chance(3) ? r(-1, 5) : r(0, 3), n = chance(5) ? r(-3, 8) : r(0, 6);
                int f = chance(50) ? r(-10, 15) : random.nextInt(), s = chance(50) ? r(-3, 3) : random.nextInt();
                same(6, "sheet(" + a + ", " + kind + ", " + n + ", " + f + ", " + s + ")", x.sheet(a, kind, n, f, s), y.sheet(a, kind, n, f, s)); break; }
            case 7: { int what = chance(5) ? r(-1, 3) : r(0, 1), w = chance(5) ? r(-2, 105) : what == 0 ? r(0, 20) : r(0, 100);
                same(7, "set(" + what + ", " + w + ")", x.set(what, w), y.set(what, w)); break; }
            case 8: same(8, "open(" + a + ", " + h + ")", x.open(a, h), y.open(a, h)); break;
            case 9: same(9, "overlap(" + a + ", " + b + ", " + h + ")", x.overlap(a, b, h), y.overlap(a, b, h)); break;
            case 10: same(10, "loses(" + a + ", " + b + ", " + h + ")", x.loses(a, b, h), y.loses(a, b, h)); break;
            default: { int c = r(-1, 6); same(11, "dark(" + c + ", " + h + ")", x.dark(c, h), y.dark(c, h)); break; }
        }
    }

    private void callState(int which) {
        int p = pce(), o = off(), h = hour();
        switch (which) {
            case 17: same(17, "begin(" + h + ")", x.begin(h) ? 1 : 0, y.begin(h) ? 1 : 0); break;
            case 18: { int n = chance(5) ? r(-2, 510) : chance(10) ? r(0, 500) : r(0, 40);
                same(18, "go(" + n + ")", x.go(n), y.go(n)); break; }
            case 20: same(20, "hand(" + p + ", " + o + ")", x.hand(p, o), y.hand(p, o)); break;
            case 21: same(21, "ends()", x.ends(), y.ends()); break;
            case 22: same(22, "judge()", x.judge(), y.judge()); break;
            case 23: { int k = chance(4) ? r(-1, 4) : r(0, 3); same(23, "one(" + p + ", " + h + ", " + k + ")", x.one(p, h, k), y.one(p, h, k)); break; }
            case 24: { int k = chance(4) ? r(-1, 3) : r(0, 2), e = chance(4) ? h + new int[] {-1, 400, 401, 0}[r(0, 3)] : h + r(0, 70);
                same(24, "cheap(" + p + ", " + h + ", " + k + ", " + e + ")", x.cheap(p, h, k, e), y.cheap(p, h, k, e)); break; }
            case 25: { int k = chance(4) ? r(-1, 4) : r(1, chance(20) ? 3 : 2); same(25, "edge(" + p + ", " + h + ", " + k + ")", x.edge(p, h, k), y.edge(p, h, k)); break; }
            case 26: same(26, "lie(" + p + ", " + h + ")", x.lie(p, h), y.lie(p, h)); break;
            case 31: { int k = r(-1, 9); same(31, "wrong(" + k + ")", x.wrong(k), y.wrong(k)); break; }
            case 32: { int k = chance(5) ? r(-1, 101) : r(1, 99); same(32, "mean(" + k + ")", x.mean(k), y.mean(k)); break; }
            case 33: same(33, "riskiest()", x.riskiest(), y.riskiest()); break;
            case 39: { int i = chance(5) ? r(-1, 3) : r(0, 2); same(39, "keep(" + i + ")", x.keep(i) ? 1 : 0, y.keep(i) ? 1 : 0); break; }
            case 40: { int i = chance(5) ? r(-1, 3) : r(0, 2); same(40, "again(" + i + ")", x.again(i) ? 1 : 0, y.again(i) ? 1 : 0); break; }
            case 41: { int w = r(-1, 11); same(41, "count(" + w + ")", x.count(w), y.count(w)); break; }
            default: break;
        }
    }

    private void callWhatIfs(int which) {
        int a = off(), b = off(), h = hour(), d = day();
        switch (which) {
            case 27: { int n = y.count(1), bits = chance(4) ? r(-1, 260) : r(0, (1 << n) - 1) & r(0, (1 << n) - 1);
                if (Integer.bitCount(bits) > 2 && !chance(5)) bits &= bits - 1;
                same(27, "homes(" + bits + ", " + h + ")", x.homes(bits, h), y.homes(bits, h)); break; }
            case 28: if (y.count(4) >= 4 && seed % 80 != 0) break;
                { int c = chance(4) ? r(-1, 101) : r(1, 30); same(28, "pair(" + a + ", " + b + ", " + c + ")", x.pair(a, b, c), y.pair(a, b, c)); break; }
            case 29: { int c = chance(4) ? r(-1, 1001) : r(0, 60); same(29, "whom(" + c + ", " + h + ")", x.whom(c, h), y.whom(c, h)); break; }
            case 30: same(30, "worth(" + h + ")", x.worth(h), y.worth(h)); break;
            case 34: { int l = chance(4) ? r(-1, 18) : r(4, 12), pc = chance(4) ? r(-1, 700) : 64 * r(1, 9) + r(1, 63), v = chance(4) ? r(-1, 10) : r(0, 9);
                same(34, "site(" + l + ", " + pc + ", " + v + ", " + h + ")", x.site(l, pc, v, h), y.site(l, pc, v, h)); break; }
            case 35: same(35, "together(" + a + ", " + h + ")", x.together(a, h), y.together(a, h)); break;
            case 36: same(36, "sleeps(" + a + ", " + d + ")", x.sleeps(a, d), y.sleeps(a, d)); break;
            case 37: { int e = chance(5) ? day() : Math.min(99, d + r(0, 6)); same(37, "worst(" + a + ", " + d + ", " + e + ")", x.worst(a, d, e), y.worst(a, d, e)); break; }
            case 38: same(38, "march(" + a + ", " + h + ")", x.march(a, h), y.march(a, h)); break;
            default: break;
        }
    }

    private void call() {
        int which = chance(20) ? new int[] {12, 15, 18, 17, 20, 5, 28, 21}[r(0, 7)] : r(2, 42);
        switch (which) {
            case 2: if (chance(30)) office(); break;
            case 12: if (chance(50)) piece(); break;
            case 13: { int v = random.nextInt(); same(13, "sign(" + v + ")", x.sign(v), y.sign(v)); break; }
            case 14: { int n = r(-1, 61); same(14, "end(" + n + ")", x.end(n) ? 1 : 0, y.end(n) ? 1 : 0); break; }
            case 15: rule(); break;
            case 16: value(); break;
            case 19: of(); break;
            case 42: row(); break;
            default:
                if (which <= 11) callOffices(which);
                else if (which >= 27 && which <= 30 || which >= 34 && which <= 38) callWhatIfs(which);
                else callState(which);
        }
    }

    private void run(int n) {
        if (chance(10)) for (int i = 0; i < 3; i++) call();
        if (seed % 8 == 0) {
            runFull(n / 2);
            return;
        }
        int offices = r(1, 4);
        for (int i = 0; i < offices; i++) office();
        if (chance(80)) rule();
        int pieces = r(0, 3);
        for (int i = 0; i < pieces; i++) piece();
        for (int i = 0; i < n && !failed; i++) call();
    }

    /** As many offices and pieces as there can be, and now and then as many pairs. */
    private void runFull(int n) {
        for (int i = 0; i < 20 && y.count(0) < 6; i++) office();
        for (int i = 0; i < 20 && y.count(1) < (seed % 16 == 0 ? 8 : 4); i++) piece();
        rule();
        int most = seed % 80 == 0 ? 9 : 4;
        for (int i = 0; i < 60 && y.count(4) < most; i++) callWhatIfs(28);
        for (int i = 0; i < n && !failed; i++) call();
    }

    public static void main(String[] args) {
        int from = args.length > 0 ? Integer.parseInt(args[0]) : 1;
        int to = args.length > 1 ? Integer.parseInt(args[1]) : 240;
        for (int seed = from; seed <= to; seed++) new AgreementTest(seed).run(120);
        int unasked = 0;
        for (int i = 2; i <= 42; i++) if (told[i] == 0) unasked++;
        if (args.length > 2) for (int i = 2; i <= 42; i++) System.out.println("promise " + i + ": " + asked[i] + " calls, " + told[i] + " not NONE");
        if (unasked > 0) System.out.println(unasked + " calls of the face were never answered");
        System.out.println(wrong == 0 ? calls + " calls agree" : wrong + " runs do not agree");
        if (wrong != 0 || unasked > 0) System.exit(1);
    }
}
