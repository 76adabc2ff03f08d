import java.math.BigInteger;
import java.util.ArrayList;
import java.util.BitSet;
import java.util.HashMap;
import java.util.List;
import java.util.Map;
import java.util.NoSuchElementException;
import java.util.TreeSet;

/**
 * The document once more, in its plainest and slowest form, for tests alone: what the class answers
 * must be what this answers. What-ifs are asked of whole copies, rows are searched without cutting
 * any off, the rule is read again at each use.
 */
final class PlainSun {
    static final int LAST = 2399;

    static final class Off {
        int zone, from, len, pay, people, crafts, clockHour, clockBy;
        TreeSet<Integer> feasts = new TreeSet<>();

        Off copy() {
            Off o = new Off();
            o.zone = zone; o.from = from; o.len = len; o.pay = pay; o.people = people;
            o.crafts = crafts; o.clockHour = clockHour; o.clockBy = clockBy;
            o.feasts = new TreeSet<>(feasts);
            return o;
        }

        boolean at(int hour) {
            int local = hour + zone;
            if (hour >= clockHour) local += clockBy;
            for (int day = local / 24 - 2; day <= local / 24 + 2; day++) {
                int begin = 24 * day + from;
                if (!feasts.contains(day) && begin <= local && local < begin + len) return true;
            }
            return false;
        }
    }

    static final class Pce {
        int craft, every, length, after, born, asks;
        int at, left, since, doneBy, worked, handings, lost;
        boolean waits;

        Pce copy() {
            Pce p = new Pce();
            p.craft = craft; p.every = every; p.length = length; p.after = after; p.born = born;
            p.asks = asks; p.at = at; p.left = left; p.since = since; p.doneBy = doneBy;
            p.worked = worked; p.handings = handings; p.lost = lost; p.waits = waits;
            return p;
        }

        void first() {
            at = born; left = length; since = 0; doneBy = -1; worked = 0; handings = 0; lost = 0;
            waits = false;
        }
    }

    static final class All {
        List<Off> offs = new ArrayList<>();
        List<Pce> pcs = new ArrayList<>();
        int[][] known = new int[7][7];
        int lose = 4, miss = 10, now = 0, pay = 0, handings = 0;
        String rule = "";
        List<Integer> wrongs = new ArrayList<>();
        // Of the last hour, for the judge.
        boolean[] didWork = new boolean[8];
        int[] busy = new int[7];

        All copy() {
            All a = new All();
            for (Off o : offs) a.offs.add(o.copy());
            for (Pce p : pcs) a.pcs.add(p.copy());
            for (int i = 0; i < 7; i++) a.known[i] = known[i].clone();
            a.lose = lose; a.miss = miss; a.now = now; a.pay = pay; a.handings = handings;
            a.rule = rule;
            a.wrongs = new ArrayList<>(wrongs);
            return a;
        }

        void begin(int hour) {
            now = hour;
            pay = 0;
            handings = 0;
            wrongs.clear();
            for (Pce p : pcs) p.first();
        }

        int known(int a, int b) { return a == b ? 9 : known[a][b]; }

        int overlap(int a, int b, int hour) {
            int n = 0;
            for (int h = hour; h <= hour + 23; h++) if (offs.get(a).at(h) && offs.get(b).at(h)) n++;
            return n;
        }

        int lost(int a, int b, int hour) {
            if (a == b) return 0;
            return Math.max(0, lose - known(a, b)) + (overlap(a, b, hour) == 0 ? 2 : 0);
        }

        boolean ready(int i) {
            Pce p = pcs.get(i);
            if (p.doneBy != -1) return false;
            for (int j = 0; j < pcs.size(); j++) {
                if ((p.after & (1 << j)) != 0 && pcs.get(j).doneBy == -1) return false;
            }
            return true;
        }

        boolean allDone() {
            for (Pce p : pcs) if (p.doneBy == -1) return false;
            return true;
        }

        void hand(int i, int to, int hour) {
            Pce p = pcs.get(i);
            int l = lost(p.at, to, hour);
            wrongs.add(miss * (10 - known(p.at, to)) / 10);
            p.left += l;
            p.lost += l;
            p.handings++;
            handings++;
            p.at = to;
        }

        void hour() {
            List<Integer> ready = new ArrayList<>();
            for (int i = 0; i < pcs.size(); i++) if (ready(i)) ready.add(i);
            didWork = new boolean[8];
            busy = new int[7];
            for (int i : ready) {
                Pce p = pcs.get(i);
                Off o = offs.get(p.at);
                if (p.waits) {
                    if (o.at(now) && offs.get(p.asks).at(now)) p.waits = false;
                } else if (o.at(now) && (o.crafts & (1 << p.craft)) != 0 && busy[p.at] < o.people) {
                    busy[p.at]++;
                    didWork[i] = true;
                    p.left--;
                    p.since++;
                    p.worked++;
                    pay += o.pay;
                    if (p.left == 0) {
                        p.doneBy = now + 1;
                    } else if (p.asks != -1 && p.since == p.every) {
                        p.waits = true;
                        p.since = 0;
                    }
                }
            }
            for (int i : ready) {
                Pce p = pcs.get(i);
                if (p.doneBy != -1 || !offs.get(p.at).at(now) || offs.get(p.at).at(now + 1)) continue;
                if (rule.isEmpty()) continue;
                int best = -1;
                int most = 0;
                for (int o = 0; o < offs.size(); o++) {
                    int v = new Reader(rule, this, i, o, now + 1).whole();
                    if (best == -1 || v > most) {
                        best = o;
                        most = v;
                    }
                }
                if (best != p.at) hand(i, best, now + 1);
            }
            now++;
        }

        int ends() {
            while (!allDone() && now < LAST) hour();
            return allDone() ? now : -2;
        }
    }

    /** Reads by falling through the levels of binding; a fault is a RuntimeException. */
    static final class Reader {
        final String text;
        final All all;
        final int piece, office, next;
        int i = 0, depth = 0;

        Reader(String text, All all, int piece, int office, int next) {
            this.text = text; this.all = all; this.piece = piece; this.office = office; this.next = next;
        }

        char see() { return i < text.length() ? text.charAt(i) : (char) 999; }

        int whole() {
            int v = or();
            if (i != text.length()) throw new IllegalStateException();
            return v;
        }

        int or() {
            int v = and();
            while (see() == '|') { i++; int w = and(); v = v != 0 || w != 0 ? 1 : 0; }
            return v;
        }

        int and() {
            int v = compare();
            while (see() == '&') { i++; int w = compare(); v = v != 0 && w != 0 ? 1 : 0; }
            return v;
        }

        int compare() {
            int v = sum();
            char c = see();
            if (c == '<' || c == '>' || c == '=') {
                i++;
                int w = sum();
                v = (c == '<' ? v < w : c == '>' ? v > w : v == w) ? 1 : 0;
            }
            return v;
        }

        int sum() {
            int v = product();
            while (see() == '+' || see() == '-') {
                char c = see();
                i++;
                int w = product();
                v = c == '+' ? v + w : v - w;
            }
            return v;
        }

        int product() {
            int v = ahead();
            while (see() == '*') { i++; v *= ahead(); }
            return v;
        }

        int ahead() {
            if (see() == '!') { i++; return ahead() == 0 ? 1 : 0; }
            if (see() == '-') { i++; return -ahead(); }
            return thing();
        }

        int thing() {
            char c = see();
            if (c == '(') {
                if (++depth > 5) throw new IllegalStateException();
                i++;
                int v = or();
                if (see() != ')') throw new IllegalStateException();
                i++;
                depth--;
                return v;
            }
            if (c >= '0' && c <= '9') {
                int v = 0;
                int n = 0;
                while (see() >= '0' && see() <= '9') {
                    if (++n > 3) throw new IllegalStateException();
                    v = v * 10 + (see() - '0');
                    i++;
                }
                return v;
            }
            if ("klowrcsbqpfn".indexOf(c) < 0) throw new IllegalStateException();
            i++;
            return all == null ? 0 : letter(c);
        }

        int letter(char c) {
            Pce p = all.pcs.get(piece);
            Off o = all.offs.get(office);
            if (c == 'k') return all.known(p.at, office);
            if (c == 'l') return all.lost(p.at, office, next);
            if (c == 'o') return all.overlap(p.at, office, next);
            if (c == 'w') return o.at(next) ? 1 : 0;
            if (c == 'r') {
                for (int d = 0; d <= 98; d++) if (o.at(next + d)) return d;
                return 99;
            }
            if (c == 'c') return (o.crafts & (1 << p.craft)) != 0 ? 1 : 0;
            if (c == 's') return p.at == office ? 1 : 0;
            if (c == 'b') return p.born == office ? 1 : 0;
            if (c == 'q') return p.asks == office ? 1 : 0;
            if (c == 'p') return o.pay;
            if (c == 'f') return p.left;
            return office;
        }
    }

    static boolean valid(String text) {
        try {
            new Reader(text, null, 0, 0, 0).whole();
            return true;
        } catch (IllegalStateException e) {
            return false;
        }
    }

    /** Whether something can come behind it that makes it a rule, of whatever length. */
    static boolean couldGoOn(String text) {
        StringBuilder closing = new StringBuilder();
        for (int j = 0; j <= 5; j++) {
            if (valid(text + closing) || valid(text + "1" + closing) || valid(text + "k" + closing)) return true;
            closing.append(')');
        }
        return false;
    }

    All all = new All();
    All[] kept = new All[3];
    StringBuilder text = new StringBuilder();
    List<int[]> pairs = new ArrayList<>();
    List<Long> row = new ArrayList<>();

    static boolean in(int v, int a, int b) { return v >= a && v <= b; }
    boolean off(int o) { return in(o, 0, all.offs.size() - 1); }
    boolean pce(int p) { return in(p, 0, all.pcs.size() - 1); }
    static boolean hr(int h) { return in(h, 0, LAST); }
    void tell(long... v) { row = new ArrayList<>(); for (long x : v) row.add(x); }

    int office(int times, int length, int pay, int pc) {
        if (!in(times, 0, 575) || !in(length, 1, 16) || !in(pay, 1, 99)) return -1;
        if (!in(pc, 0, 700) || !in(pc / 64, 1, 9) || pc % 64 == 0 || all.offs.size() == 6) return -1;
        all.offs.add(made(times / 24, times % 24, length, pay, pc));
        return all.offs.size() - 1;
    }

    static Off made(int zone, int from, int length, int pay, int pc) {
        Off o = new Off();
        o.zone = zone; o.from = from; o.len = length; o.pay = pay; o.people = pc / 64; o.crafts = pc % 64;
        return o;
    }

    boolean clock(int o, int hour, int by) {
        if (!off(o) || !hr(hour) || !in(by, -1, 1)) return false;
        all.offs.get(o).clockHour = hour;
        all.offs.get(o).clockBy = by;
        return true;
    }

    boolean feast(int o, int day, boolean is) {
        if (!off(o) || !in(day, 0, 99)) return false;
        if (is) all.offs.get(o).feasts.add(day); else all.offs.get(o).feasts.remove(day);
        return true;
    }

    int know(int a, int b, int v) {
        if (!off(a) || !off(b) || a == b || !in(v, 0, 9)) return -1;
        int was = all.known[a][b];
        all.known[a][b] = v;
        all.known[b][a] = v;
        return was;
    }

    int sheet(int o, int kind, int n, int f, int step) {
        if (!off(o) || !in(kind, 0, 3) || n > 6) return -1;
        if (kind != 3 && n < 0) return -2;
        int e = f;
        for (int i = 0; i < (kind == 3 ? 6 : n); i++) {
            int v = kind == 0 ? (byte) e : kind == 1 ? (short) e : kind == 2 ? e : 0;
            if (i != o && i < all.offs.size()) know(o, i, Math.max(0, Math.min(9, v)));
            e += step;
        }
        int sum = 0;
        for (int i = 0; i < all.offs.size(); i++) if (i != o) sum += all.known(o, i);
        return sum;
    }

    int set(int what, int v) {
        if (what == 0 && in(v, 0, 20)) { int w = all.lose; all.lose = v; return w; }
        if (what == 1 && in(v, 0, 100)) { int w = all.miss; all.miss = v; return w; }
        return -1;
    }

    int open(int o, int h) { return off(o) && hr(h) ? (all.offs.get(o).at(h) ? 1 : 0) : -1; }
    int overlap(int a, int b, int h) { return off(a) && off(b) && hr(h) ? all.overlap(a, b, h) : -1; }
    int loses(int a, int b, int h) { return off(a) && off(b) && hr(h) ? all.lost(a, b, h) : -1; }

    int dark(int craft, int hour) {
        if (!in(craft, 0, 5) || !hr(hour) || all.offs.isEmpty()) return -1;
        List<Integer> darks = new ArrayList<>();
        int most = -1, mostHour = -1;
        for (int h = hour; h < hour + 24; h++) {
            int n = 0;
            for (Off o : all.offs) if ((o.crafts & (1 << craft)) != 0 && o.at(h)) n++;
            if (n == 0) darks.add(h);
            if (n > most) { most = n; mostHour = h; }
        }
        tell(darks.isEmpty() ? -1 : darks.get(0), most, mostHour);
        return darks.size();
    }

    int piece(int of, int length, int after, int born, int asks) {
        if (!in(of, 6, 365) || !in(length, 1, 60) || all.pcs.size() == 8) return -1;
        if (!in(after, 0, (1 << all.pcs.size()) - 1) || !off(born) || (asks != -1 && !off(asks))) return -1;
        Pce p = new Pce();
        p.every = of / 6; p.craft = of % 6; p.length = length; p.after = after; p.born = born; p.asks = asks;
        p.first();
        all.pcs.add(p);
        return all.pcs.size() - 1;
    }

    int sign(int v) {
        if (text.length() + 4 > 60) return -1;
        text.append((char) (v >>> 24)).append((char) (v >> 16 & 255)).append((char) (v >> 8 & 255)).append((char) (v & 255));
        return text.length();
    }

    boolean end(int n) {
        if (!in(n, 0, text.length())) return false;
        text.setLength(n);
        return true;
    }

    int rule() {
        String t = text.toString();
        text.setLength(0);
        if (t.isEmpty() || (t.length() <= 40 && valid(t))) {
            all.rule = t;
            return 0;
        }
        for (int p = 0; p < t.length(); p++) {
            if (p == 40) return -41;
            if (!couldGoOn(t.substring(0, p + 1))) return -1 - p;
        }
        return -1 - t.length();
    }

    int value(int p, int o) {
        if (!pce(p) || !off(o) || all.rule.isEmpty()) throw new NoSuchElementException();
        return new Reader(all.rule, all, p, o, all.now + 1).whole();
    }

    boolean begin(int hour) {
        if (!hr(hour)) return false;
        all.begin(hour);
        return true;
    }

    int go(int n) {
        if (!in(n, 0, 500)) return -1;
        for (int i = 0; i < n; i++) if (all.now < LAST) all.hour();
        return all.now;
    }

    int of(int i, int what) {
        if (!pce(i) || !in(what, 0, 8)) throw new NoSuchElementException();
        Pce p = all.pcs.get(i);
        return new int[] {p.at, p.left, p.since, p.waits ? 1 : 0, p.doneBy, p.worked, p.handings, p.lost, all.ready(i) ? 1 : 0}[what];
    }

    int hand(int i, int o) {
        if (!pce(i) || !off(o) || all.pcs.get(i).doneBy != -1 || all.pcs.get(i).at == o) return -1;
        int was = all.pcs.get(i).left;
        all.hand(i, o, all.now);
        return all.pcs.get(i).left - was;
    }

    static int lostOf(All a) { int s = 0; for (Pce p : a.pcs) s += p.lost; return s; }

    void tellEnds(All a, All ahead) {
        row = new ArrayList<>();
        for (Pce p : a.pcs) row.add((long) p.doneBy);
        row.add((long) a.handings - ahead.handings);
        row.add((long) lostOf(a) - lostOf(ahead));
        row.add((long) a.pay - ahead.pay);
    }

    int ends() {
        if (all.pcs.isEmpty()) return -1;
        All a = all.copy();
        int e = a.ends();
        if (e != -2) tellEnds(a, all);
        return e;
    }

    int judge() {
        if (all.pcs.isEmpty()) return -1;
        All a = all.copy();
        while (!a.allDone() && a.now < LAST) {
            boolean[] idle = new boolean[8];
            for (int i = 0; i < a.pcs.size(); i++) idle[i] = a.ready(i) && !a.pcs.get(i).waits;
            a.hour();
            for (int i = 0; i < a.pcs.size(); i++) {
                if (!idle[i] || a.didWork[i]) continue;
                for (int o = 0; o < a.offs.size(); o++) {
                    Off x = a.offs.get(o);
                    if (x.at(a.now - 1) && (x.crafts & (1 << a.pcs.get(i).craft)) != 0 && a.busy[o] < x.people) {
                        tell(i, o);
                        return a.now - 1;
                    }
                }
            }
        }
        return -2;
    }

    static boolean less(List<Integer> a, List<Integer> b) {
        for (int i = 0; i < a.size(); i++) if (!a.get(i).equals(b.get(i))) return a.get(i) < b.get(i);
        return false;
    }

    List<List<Integer>> rows(int born, int k) {
        List<List<Integer>> found = new ArrayList<>();
        found.add(new ArrayList<>());
        for (int i = 0; i < found.size(); i++) {
            List<Integer> r = found.get(i);
            int at = r.isEmpty() ? born : r.get(r.size() - 1);
            for (int o = 0; o < all.offs.size() && r.size() < k; o++) {
                if (o == at) continue;
                List<Integer> more = new ArrayList<>(r);
                more.add(o);
                found.add(more);
            }
        }
        return found;
    }

    List<Integer> bestRow;

    /** All LEFTs that each row could have at each hour, none of them cut off. */
    int soonest(int i, int hour, int k) {
        Pce p = all.pcs.get(i);
        List<List<Integer>> rows = rows(p.born, k);
        Map<List<Integer>, BitSet> lefts = new HashMap<>();
        for (List<Integer> r : rows) lefts.put(r, new BitSet());
        lefts.get(new ArrayList<Integer>()).set(p.length);
        for (int h = hour; h < LAST; h++) {
            bestRow = null;
            for (List<Integer> r : rows) {
                Off o = all.offs.get(r.isEmpty() ? p.born : r.get(r.size() - 1));
                if (!o.at(h) || (o.crafts & (1 << p.craft)) == 0) continue;
                BitSet was = lefts.get(r);
                BitSet is = was.get(1, Math.max(1, was.length()));
                lefts.put(r, is);
                if (is.get(0) && (bestRow == null || r.size() < bestRow.size() || (r.size() == bestRow.size() && less(r, bestRow)))) bestRow = r;
            }
            if (bestRow != null) return h + 1;
            Map<List<Integer>, BitSet> then = new HashMap<>();
            int[][] lost = new int[6][6];
            for (int a = 0; a < all.offs.size(); a++) {
                for (int b = 0; b < all.offs.size(); b++) lost[a][b] = all.lost(a, b, h + 1);
            }
            for (List<Integer> r : rows) {
                BitSet b = (BitSet) lefts.get(r).clone();
                if (!r.isEmpty()) {
                    List<Integer> ahead = r.subList(0, r.size() - 1);
                    int from = ahead.isEmpty() ? p.born : ahead.get(ahead.size() - 1);
                    int l = lost[from][r.get(r.size() - 1)];
                    BitSet x = lefts.get(ahead);
                    for (int v = x.nextSetBit(0); v >= 0; v = x.nextSetBit(v + 1)) b.set(v + l);
                }
                then.put(r, b);
            }
            lefts = then;
        }
        return -2;
    }

    void tellRow() {
        row = new ArrayList<>();
        row.add((long) bestRow.size());
        for (int o : bestRow) row.add((long) o);
    }

    int one(int i, int hour, int k) {
        if (!pce(i) || !hr(hour) || !in(k, 0, 3)) return -1;
        int e = soonest(i, hour, k);
        if (e != -2) tellRow();
        return e;
    }

    /** Tries all hours behind which each row could be handed; cheap hours are taken first. */
    int cheap(int i, int hour, int k, int end) {
        if (!pce(i) || !hr(hour) || !in(k, 0, 2) || !hr(end) || !in(end, hour, hour + 400)) return -1;
        Pce p = all.pcs.get(i);
        int least = Integer.MAX_VALUE;
        for (List<Integer> r : rows(p.born, k)) {
            int[] stage = new int[r.size() + 1];
            stage[0] = p.born;
            for (int j = 0; j < r.size(); j++) stage[j + 1] = r.get(j);
            int pay = cheapRow(p, stage, hour, end);
            if (pay < least) {
                least = pay;
                bestRow = r;
            }
        }
        if (least == Integer.MAX_VALUE) return -2;
        tellRow();
        return least;
    }

    int cheapRow(Pce p, int[] stage, int hour, int end) {
        int[][] upTo = new int[stage.length][end - hour + 1];
        for (int s = 0; s < stage.length; s++) {
            Off o = all.offs.get(stage[s]);
            for (int h = hour; h < end; h++) {
                upTo[s][h - hour + 1] = upTo[s][h - hour] + (o.at(h) && (o.crafts & (1 << p.craft)) != 0 ? 1 : 0);
            }
        }
        int[][] lost = new int[stage.length][end - hour + 1];
        for (int s = 1; s < stage.length; s++) {
            for (int h = hour; h <= end; h++) lost[s][h - hour] = all.lost(stage[s - 1], stage[s], h);
        }
        int n = end - hour;
        int least = Integer.MAX_VALUE;
        if (stage.length == 1) return paid(stage, new int[] {upTo[0][n]}, p.length);
        for (int a = 1; a <= n; a++) {
            if (stage.length == 2) {
                int[] avail = {upTo[0][a], upTo[1][n] - upTo[1][a]};
                least = Math.min(least, paid(stage, avail, p.length + lost[1][a]));
                continue;
            }
            for (int b = a + 1; b <= n; b++) {
                int[] avail = {upTo[0][a], upTo[1][b] - upTo[1][a], upTo[2][n] - upTo[2][b]};
                least = Math.min(least, paid(stage, avail, p.length + lost[1][a] + lost[2][b]));
            }
        }
        return least;
    }

    int paid(int[] stage, int[] avail, int need) {
        int pay = 0;
        boolean[] used = new boolean[stage.length];
        for (int round = 0; round < stage.length; round++) {
            int c = -1;
            for (int s = 0; s < stage.length; s++) {
                if (!used[s] && (c == -1 || all.offs.get(stage[s]).pay < all.offs.get(stage[c]).pay)) c = s;
            }
            used[c] = true;
            int w = Math.min(need, avail[c]);
            pay += w * all.offs.get(stage[c]).pay;
            need -= w;
        }
        return need > 0 ? Integer.MAX_VALUE : pay;
    }

    int edge(int i, int hour, int k) {
        if (!pce(i) || !hr(hour) || !in(k, 1, 3)) return -1;
        int without = soonest(i, hour, 0);
        if (without == -2) return -1;
        tell(without);
        int was = all.lose;
        int edge = -2;
        for (int lose = 0; lose <= 20; lose++) {
            all.lose = lose;
            if (soonest(i, hour, k) < without) edge = -2; else if (edge == -2) edge = lose;
        }
        all.lose = was;
        return edge;
    }

    int lie(int i, int hour) {
        if (!pce(i) || !hr(hour)) return -1;
        int best = -2, bestHour = 0, bestWaited = 0;
        for (int o = 0; o < all.offs.size(); o++) {
            All a = all.copy();
            Pce p = a.pcs.get(i);
            a.pcs.clear();
            a.pcs.add(p);
            p.after = 0;
            p.born = o;
            a.rule = "";
            a.begin(hour);
            int waited = 0;
            while (!a.allDone() && a.now < LAST) {
                if (p.waits) waited++;
                a.hour();
            }
            if (a.allDone() && (best == -2 || a.now < bestHour)) {
                best = o;
                bestHour = a.now;
                bestWaited = waited;
            }
        }
        if (best != -2) tell(bestHour, bestWaited);
        return best;
    }

    int homes(int bits, int hour) {
        if (bits < 1 || bits >= 1 << all.pcs.size() || Integer.bitCount(bits) > 4 || !hr(hour)) return -1;
        List<Integer> who = new ArrayList<>();
        for (int i = 0; i < 8; i++) if ((bits & (1 << i)) != 0) who.add(i);
        List<List<Integer>> ways = new ArrayList<>();
        ways.add(new ArrayList<>());
        for (int j = 0; j < who.size(); j++) {
            List<List<Integer>> more = new ArrayList<>();
            for (List<Integer> w : ways) {
                for (int o = 0; o < all.offs.size(); o++) {
                    List<Integer> x = new ArrayList<>(w);
                    x.add(o);
                    more.add(x);
                }
            }
            ways = more;
        }
        int best = -2;
        List<Integer> bestWay = null;
        for (List<Integer> w : ways) {
            All a = all.copy();
            a.rule = "";
            for (int j = 0; j < who.size(); j++) a.pcs.get(who.get(j)).born = w.get(j);
            a.begin(hour);
            int e = a.ends();
            if (e != -2 && (bestWay == null || e < best || (e == best && less(w, bestWay)))) {
                best = e;
                bestWay = w;
            }
        }
        if (best == -2) return -2;
        row = new ArrayList<>();
        for (int o : bestWay) row.add((long) o);
        return best;
    }

    int pair(int a, int b, int price) {
        if (!off(a) || !off(b) || a == b || !in(price, 1, 99) || pairs.size() == 9) return -1;
        for (int[] p : pairs) if (Math.min(a, b) == Math.min(p[0], p[1]) && Math.max(a, b) == Math.max(p[0], p[1])) return -1;
        pairs.add(new int[] {a, b, price});
        return pairs.size();
    }

    int endsWith(int bits, int hour) {
        All a = all.copy();
        for (int i = 0; i < pairs.size(); i++) {
            if ((bits & (1 << i)) == 0) continue;
            int[] p = pairs.get(i);
            a.known[p[0]][p[1]] = Math.min(9, a.known[p[0]][p[1]] + 3);
            a.known[p[1]][p[0]] = a.known[p[0]][p[1]];
        }
        a.begin(hour);
        return a.ends();
    }

    int whom(int coin, int hour) {
        if (!in(coin, 0, 999) || !hr(hour) || all.pcs.isEmpty()) return -1;
        int best = -2, bestBits = 0, bestPrice = 0;
        for (int bits = (1 << pairs.size()) - 1; bits >= 0; bits--) {
            int price = 0;
            for (int i = 0; i < pairs.size(); i++) if ((bits & (1 << i)) != 0) price += pairs.get(i)[2];
            if (price > coin) continue;
            int e = endsWith(bits, hour);
            if (e == -2) continue;
            if (best == -2 || e < best || (e == best && price <= bestPrice)) {
                best = e;
                bestBits = bits;
                bestPrice = price;
            }
        }
        if (best != -2) tell(bestBits, bestPrice);
        return best;
    }

    int worth(int hour) {
        if (!hr(hour) || all.pcs.isEmpty()) return -1;
        if (pairs.isEmpty()) return -2;
        int without = endsWith(0, hour);
        row = new ArrayList<>();
        int best = -1;
        for (int i = 0; i < pairs.size(); i++) {
            int with = endsWith(1 << i, hour);
            row.add(with == -2 || without == -2 ? -9999L : without - with);
            if (best == -1 || row.get(i) > row.get(best)) best = i;
        }
        return best;
    }

    void fraction(BigInteger up, BigInteger low) {
        BigInteger g = up.gcd(low);
        tell(up.divide(g).longValueExact(), low.divide(g).longValueExact());
    }

    /** Goes through all ways in which some were understood otherwise, and some not. */
    int wrong(int k) {
        if (!in(k, 0, 8)) return -1;
        int n = Math.min(8, all.wrongs.size());
        BigInteger up = BigInteger.ZERO;
        for (int bits = 0; bits < 1 << n; bits++) {
            if (Integer.bitCount(bits) < k) continue;
            BigInteger x = BigInteger.ONE;
            for (int i = 0; i < n; i++) {
                int w = all.wrongs.get(i);
                x = x.multiply(BigInteger.valueOf((bits & (1 << i)) != 0 ? w : 100 - w));
            }
            up = up.add(x);
        }
        fraction(up, BigInteger.valueOf(100).pow(n));
        return 0;
    }

    int mean(int hours) {
        if (!in(hours, 1, 99)) return -1;
        long sum = 0;
        int n = Math.min(60, all.wrongs.size());
        for (int i = 0; i < n; i++) sum += (long) all.wrongs.get(i) * hours;
        fraction(BigInteger.valueOf(sum), BigInteger.valueOf(100));
        return n;
    }

    int riskiest() {
        int n = Math.min(60, all.wrongs.size());
        int best = -2;
        for (int i = n - 1; i >= 0; i--) if (best == -2 || all.wrongs.get(i) >= all.wrongs.get(best)) best = i;
        if (best != -2) tell(all.wrongs.get(best));
        return best;
    }

    int site(int length, int pc, int v, int hour) {
        if (!in(length, 1, 16) || !in(pc, 0, 700) || !in(pc / 64, 1, 9) || pc % 64 == 0 || !in(v, 0, 9)) return -1;
        if (!hr(hour) || all.offs.size() == 6 || all.pcs.isEmpty()) return -1;
        int best = -2, bestHour = 0;
        for (int zone = 0; zone < 24; zone++) {
            All a = all.copy();
            int n = a.offs.size();
            a.offs.add(made(zone, 9, length, 1, pc));
            for (int o = 0; o < n; o++) {
                a.known[o][n] = v;
                a.known[n][o] = v;
            }
            a.begin(hour);
            int e = a.ends();
            if (e != -2 && (best == -2 || e < bestHour)) {
                best = zone;
                bestHour = e;
            }
        }
        All a = all.copy();
        a.begin(hour);
        int e = a.ends();
        if (best != -2) tell(bestHour, e == -2 ? -1 : e);
        return best;
    }

    int together(int o, int hour) {
        if (!off(o) || !hr(hour) || all.pcs.isEmpty()) return -1;
        All a = all.copy();
        int people = 0;
        for (Off x : a.offs) people += x.people;
        a.offs.get(o).people = Math.min(9, people);
        a.offs.get(o).crafts = 63;
        a.rule = "";
        for (Pce p : a.pcs) {
            p.born = o;
            p.asks = -1;
        }
        a.begin(hour);
        All ahead = a.copy();
        int e = a.ends();
        if (e != -2) tellEnds(a, ahead);
        return e;
    }

    int sleeps(int o, int day) {
        if (!off(o) || !in(day, 0, 99) || all.pcs.isEmpty()) return -1;
        if (all.offs.get(o).feasts.contains(day)) return -9998;
        All a = all.copy();
        a.offs.get(o).feasts.add(day);
        int with = a.ends();
        int without = all.copy().ends();
        return with == -2 || without == -2 ? -9999 : with - without;
    }

    int worst(int o, int from, int to) {
        if (!off(o) || !in(from, 0, 99) || !in(to, 0, 99) || all.pcs.isEmpty() || from > to) return -1;
        int best = -2, latest = 0;
        for (int day = to; day >= from; day--) {
            if (all.offs.get(o).feasts.contains(day)) continue;
            All a = all.copy();
            a.offs.get(o).feasts.add(day);
            int e = a.ends();
            if (e != -2 && (best == -2 || e >= latest)) {
                best = day;
                latest = e;
            }
        }
        if (best != -2) tell(latest);
        return best;
    }

    int march(int o, int hour) {
        if (!off(o) || !hr(hour) || all.pcs.isEmpty()) return -1;
        All a = all.copy();
        a.offs.get(o).clockHour = hour;
        a.offs.get(o).clockBy = 1;
        int with = a.ends();
        int without = all.copy().ends();
        return with == -2 || without == -2 ? -9999 : with - without;
    }

    boolean keep(int i) {
        if (!in(i, 0, 2)) return false;
        kept[i] = all.copy();
        return true;
    }

    boolean again(int i) {
        if (!in(i, 0, 2) || kept[i] == null || kept[i].pcs.size() != all.pcs.size()) return false;
        All k = kept[i];
        all.now = k.now;
        all.pay = k.pay;
        all.handings = k.handings;
        all.wrongs = new ArrayList<>(k.wrongs);
        all.pcs = new ArrayList<>();
        for (Pce p : k.pcs) all.pcs.add(p.copy());
        return true;
    }

    int count(int what) {
        int done = 0;
        for (int i = 0; i < all.pcs.size(); i++) if (all.pcs.get(i).doneBy != -1) done |= 1 << i;
        int[] c = {all.offs.size(), all.pcs.size(), all.now, done, pairs.size(), all.handings, lostOf(all), all.pay, row.size(), text.length()};
        return in(what, 0, 9) ? c[what] : -1;
    }

    long row(int i) {
        if (!in(i, 0, row.size() - 1)) throw new NoSuchElementException();
        return row.get(i);
    }
}
