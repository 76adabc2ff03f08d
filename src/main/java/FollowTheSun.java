import java.util.Arrays;
import java.util.NoSuchElementException;

/**
 * Work that follows the sun: offices round the earth, pieces that are worked hour by hour and
 * handed on by a rule, and questions about all of it. The document's promises say what each call
 * answers.
 */
public final class FollowTheSun {
    public static final int NONE = -1;

    private static final int NEVER = -2;
    private static final int NO_END = -9999;
    private static final int FEAST_ALREADY = -9998;

    private static final int LAST_HOUR = 2399;
    private static final int BITS_OF_LONG = 64;
    // A value asked at the last hour looks as far as 98 hours behind hour 2400.
    private static final int TABLE_LONGS = 40;
    private static final int TABLE_HOURS = TABLE_LONGS * BITS_OF_LONG;
    private static final int HOURS_OF_DAY = 24;
    private static final int WHOLE_DAY = (1 << HOURS_OF_DAY) - 1;
    private static final int MOST_DAYS = 100;
    private static final int MOST_HOURS_AT_ONCE = 500;

    private static final int MOST_OFFICES = 6;
    private static final int MOST_LONG = 16;
    private static final int MOST_PAY = 99;
    private static final int MOST_PEOPLE = 9;
    private static final int ALL_CRAFTS = 63;
    private static final int CRAFT_COUNT = 6;
    private static final int MOST_KNOWN = 9;
    private static final int MOST_LOSE = 20;
    private static final int MOST_MISS = 100;
    private static final int LOST_APART = 2;

    private static final int MOST_PIECES = 8;
    private static final int MOST_LENGTH = 60;
    private static final int MOST_EVERY = 60;
    private static final int MOST_HOMES = 4;

    private static final int MOST_SIGNS = 60;
    private static final int MOST_RULE_SIGNS = 40;
    private static final int MOST_DEPTH = 5;
    private static final int MOST_DIGITS = 3;
    private static final String LETTERS = "klowrcsbqpfn";
    // A rule's code is one row of ints: numbers as they are, letters and operators above these.
    private static final int LETTER_CODE = 1000;
    private static final int OPERATOR_CODE = 2000;
    private static final int COMPARING_LEVEL = 3;
    private static final int UNARY_LEVEL = 6;
    private static final char UNARY_MINUS = '~';
    private static final int FARTHEST_WORK = 99;

    private static final int MOST_WRONGS = 60;
    private static final int MOST_CHANCES = 8;

    private static final int MOST_PAIRS = 9;
    private static final int MORE_KNOWN = 3;
    private static final int MOST_COIN = 999;

    private static final int SITE_FROM = 9;
    // The document tells no PAY for a site; this is the least that an office can have.
    private static final int SITE_PAY = 1;

    private static final int MOST_HANDINGS = 3;
    private static final int MOST_CHEAP_HANDINGS = 2;
    private static final int MOST_CHEAP_HOURS = 400;
    // 1 + 5 + 25 + 125 rows of at most 3 handings, 31 of at most 2.
    private static final int MOST_WAYS = 156;
    private static final int MOST_CHEAP_WAYS = 31;
    // 60 hours, and 22 more by each of two handings.
    private static final int MOST_CHEAP_LEFT = 104;
    private static final int FAR = 1000000;

    private final Earth earth = new Earth();
    private final Pieces pieces = new Pieces();
    private final Rule law = new Rule();
    private final RuleReader reader = new RuleReader();
    private final Walk walk = new Walk(earth, pieces, law);
    private final Ways ways = new Ways(earth);
    private final Pairs pairs = new Pairs();
    private final State state = new State();
    private final State trial = new State();
    private final State[] kept = new State[3];
    // How many pieces there were as a state was kept, NONE if nothing was.
    private final int[] keptPieces = new int[3];
    private final Numbers numbers = new Numbers();
    private final char[] text = new char[MOST_SIGNS];
    private int signs = 0;

    public FollowTheSun() {
        for (int i = 0; i < kept.length; i++) {
            kept[i] = new State();
            keptPieces[i] = NONE;
        }
    }

    // ---- offices

    public int office(int times, int length, int pay, int pc) {
        if (earth.count >= MOST_OFFICES || times < 0 || times >= HOURS_OF_DAY * HOURS_OF_DAY) {
            return NONE;
        }
        if (length < 1 || length > MOST_LONG || pay < 1 || pay > MOST_PAY || !isStaff(pc)) {
            return NONE;
        }
        int number = earth.count;
        earth.offices[number].settle(times, length, pay, pc);
        earth.count = number + 1;
        earth.refresh(number, 0, TABLE_HOURS);
        return number;
    }

    public boolean clock(int office, int hour, int by) {
        if (!earth.has(office) || !isHour(hour) || by < -1 || by > 1) {
            return false;
        }
        earth.offices[office].clockHour = hour;
        earth.offices[office].clockBy = by;
        earth.refresh(office, 0, TABLE_HOURS);
        return true;
    }

    public boolean feast(int office, int day, boolean is) {
        if (!earth.has(office) || !isDay(day)) {
            return false;
        }
        earth.putFeast(office, day, is);
        return true;
    }

    public int know(int a, int b, int v) {
        if (!earth.has(a) || !earth.has(b) || a == b || v < 0 || v > MOST_KNOWN) {
            return NONE;
        }
        int was = earth.known[a * MOST_OFFICES + b];
        earth.putKnown(a, b, v);
        return was;
    }

    public int sheet(int office, int kind, int n, int f, int step) {
        if (!earth.has(office) || kind < 0 || kind > 3 || n > MOST_OFFICES) {
            return NONE;
        }
        boolean missing = kind == 3;
        if (!missing && n < 0) {
            return NEVER;
        }
        int sum = 0;
        for (int o = 0; o < earth.count; o++) {
            if (o == office) {
                continue;
            }
            if (missing) {
                earth.putKnown(office, o, 0);
            } else if (o < n) {
                earth.putKnown(office, o, knownByEntry(kind, f + o * step));
            }
            sum += earth.known[office * MOST_OFFICES + o];
        }
        return sum;
    }

    public int set(int what, int v) {
        if (what == 0 && v >= 0 && v <= MOST_LOSE) {
            int was = earth.lose;
            earth.lose = v;
            return was;
        }
        if (what == 1 && v >= 0 && v <= MOST_MISS) {
            int was = earth.miss;
            earth.miss = v;
            return was;
        }
        return NONE;
    }

    public int open(int office, int hour) {
        if (!earth.has(office) || !isHour(hour)) {
            return NONE;
        }
        return (earth.work[hour] >> office) & 1;
    }

    public int overlap(int a, int b, int hour) {
        if (!earth.has(a) || !earth.has(b) || !isHour(hour)) {
            return NONE;
        }
        return Integer.bitCount(earth.bothFrom(a, b, hour));
    }

    public int loses(int a, int b, int hour) {
        if (!earth.has(a) || !earth.has(b) || !isHour(hour)) {
            return NONE;
        }
        return earth.lostBy(a, b, earth.bothFrom(a, b, hour));
    }

    public int dark(int craft, int hour) {
        if (craft < 0 || craft >= CRAFT_COUNT || !isHour(hour) || earth.count == 0) {
            return NONE;
        }
        int able = earth.officesWith(craft);
        int darkHours = 0;
        int first = NONE;
        int most = 0;
        int mostHour = hour;
        for (int h = hour; h < hour + HOURS_OF_DAY; h++) {
            int working = Integer.bitCount(earth.work[h] & able);
            if (working == 0) {
                first = darkHours == 0 ? h : first;
                darkHours++;
            }
            if (working > most) {
                most = working;
                mostHour = h;
            }
        }
        numbers.clear();
        numbers.tell(first);
        numbers.tell(most);
        numbers.tell(mostHour);
        return darkHours;
    }

    // ---- pieces, the rule

    public int piece(int of, int length, int after, int born, int asks) {
        int number = pieces.count;
        if (number >= MOST_PIECES || of < CRAFT_COUNT || of >= CRAFT_COUNT * (MOST_EVERY + 1)) {
            return NONE;
        }
        if (length < 1 || length > MOST_LENGTH || after < 0 || after >= (1 << number)) {
            return NONE;
        }
        if (!earth.has(born) || (asks != NONE && !earth.has(asks))) {
            return NONE;
        }
        pieces.craft[number] = of % CRAFT_COUNT;
        pieces.every[number] = of / CRAFT_COUNT;
        pieces.length[number] = length;
        pieces.after[number] = after;
        pieces.born[number] = born;
        pieces.asks[number] = asks;
        pieces.count = number + 1;
        state.startPiece(pieces, number);
        return number;
    }

    public int sign(int v) {
        if (signs + 4 > MOST_SIGNS) {
            return NONE;
        }
        for (int shift = 24; shift >= 0; shift -= 8) {
            text[signs] = (char) ((v >>> shift) & 255);
            signs++;
        }
        return signs;
    }

    public boolean end(int n) {
        if (n < 0 || n > signs) {
            return false;
        }
        signs = n;
        return true;
    }

    public int rule() {
        int length = signs;
        signs = 0;
        if (length == 0) {
            law.length = 0;
            return 0;
        }
        int place = reader.read(text, length);
        if (place != NONE) {
            return -1 - place;
        }
        law.take(reader.code, reader.length);
        return 0;
    }

    public int value(int piece, int office) throws NoSuchElementException {
        if (!pieces.has(piece) || !earth.has(office) || law.length == 0) {
            throw new NoSuchElementException();
        }
        return walk.valueFor(state, piece, office, state.now + 1);
    }

    // ---- the state

    public boolean begin(int hour) {
        if (!isHour(hour)) {
            return false;
        }
        state.startAll(pieces, hour);
        return true;
    }

    public int go(int n) {
        if (n < 0 || n > MOST_HOURS_AT_ONCE) {
            return NONE;
        }
        for (int i = 0; i < n && state.now < LAST_HOUR; i++) {
            walk.hourGoesBy(state);
        }
        return state.now;
    }

    public int of(int piece, int what) throws NoSuchElementException {
        if (!pieces.has(piece)) {
            throw new NoSuchElementException();
        }
        switch (what) {
            case 0:
                return state.at[piece];
            case 1:
                return state.left[piece];
            case 2:
                return state.since[piece];
            case 3:
                return (state.waits >> piece) & 1;
            case 4:
                return state.doneBy[piece];
            case 5:
                return state.worked[piece];
            case 6:
                return state.handings[piece];
            case 7:
                return state.lost[piece];
            case 8:
                return (walk.readyPieces(state) >> piece) & 1;
            default:
                throw new NoSuchElementException();
        }
    }

    public int hand(int piece, int office) {
        if (!pieces.has(piece) || !earth.has(office)) {
            return NONE;
        }
        if (((state.done >> piece) & 1) == 1 || state.at[piece] == office) {
            return NONE;
        }
        return walk.handTo(state, piece, office, state.now);
    }

    public int ends() {
        if (pieces.count == 0) {
            return NONE;
        }
        int hour = walk.runToEnd(fromNow(), LAST_HOUR);
        if (hour != NEVER) {
            tellEnd(state.allHandings(), state.allLost(), state.pay);
        }
        return hour;
    }

    public int judge() {
        if (pieces.count == 0) {
            return NONE;
        }
        fromNow();
        for (int h = trial.now; h < LAST_HOUR && trial.done != pieces.all(); h++) {
            int asked = walk.readyPieces(trial) & ~trial.waits;
            walk.hourGoesBy(trial);
            int idle = walk.idleThough(asked & ~walk.workedNow, h);
            if (idle != NONE) {
                numbers.clear();
                numbers.tell(idle / MOST_OFFICES);
                numbers.tell(idle % MOST_OFFICES);
                return h;
            }
        }
        return NEVER;
    }

    // ---- one piece

    public int one(int piece, int hour, int k) {
        if (!pieces.has(piece) || !isHour(hour) || k < 0 || k > MOST_HANDINGS) {
            return NONE;
        }
        ways.grow(pieces.born[piece], k);
        int soonest = ways.soonest(pieces, piece, hour, LAST_HOUR);
        if (soonest != NEVER) {
            ways.tellBest(numbers);
        }
        return soonest;
    }

    public int cheap(int piece, int hour, int k, int end) {
        if (!pieces.has(piece) || !isHour(hour) || k < 0 || k > MOST_CHEAP_HANDINGS) {
            return NONE;
        }
        if (!isHour(end) || end < hour || end > hour + MOST_CHEAP_HOURS) {
            return NONE;
        }
        ways.grow(pieces.born[piece], k);
        int least = ways.cheapest(pieces, piece, hour, end);
        if (least != NEVER) {
            ways.tellBest(numbers);
        }
        return least;
    }

    public int edge(int piece, int hour, int k) {
        if (!pieces.has(piece) || !isHour(hour) || k < 1 || k > MOST_HANDINGS) {
            return NONE;
        }
        int born = pieces.born[piece];
        ways.grow(born, 0);
        int without = ways.soonest(pieces, piece, hour, LAST_HOUR);
        if (without == NEVER) {
            return NONE;
        }
        numbers.clear();
        numbers.tell(without);
        ways.grow(born, k);
        int was = earth.lose;
        int edge = 0;
        for (int lose = MOST_LOSE; lose >= 0 && edge == 0; lose--) {
            earth.lose = lose;
            boolean sooner = ways.soonest(pieces, piece, hour, without - 1) != NEVER;
            edge = sooner ? lose + 1 : 0;
        }
        earth.lose = was;
        return edge > MOST_LOSE ? NEVER : edge;
    }

    public int lie(int piece, int hour) {
        if (!pieces.has(piece) || !isHour(hour)) {
            return NONE;
        }
        int best = NEVER;
        int bestHour = LAST_HOUR + 1;
        int bestWaited = 0;
        for (int o = 0; o < earth.count; o++) {
            int hourHere = walk.doneAlone(piece, o, hour, bestHour - 1);
            if (hourHere != NEVER) {
                best = o;
                bestHour = hourHere;
                bestWaited = walk.waitedAlone;
            }
        }
        if (best != NEVER) {
            numbers.clear();
            numbers.tell(bestHour);
            numbers.tell(bestWaited);
        }
        return best;
    }

    // ---- some pieces, acquaintances

    public int homes(int pieces, int hour) {
        int n = Integer.bitCount(pieces);
        if (pieces <= 0 || pieces > this.pieces.all() || n > MOST_HOMES || !isHour(hour)) {
            return NONE;
        }
        int all = 1;
        for (int i = 0; i < n; i++) {
            all *= earth.count;
        }
        int best = NONE;
        int bestHour = LAST_HOUR + 1;
        walk.byRule = false;
        for (int way = 0; way < all; way++) {
            begunAt(hour);
            houseTrial(pieces, way);
            int found = walk.runToEnd(trial, bestHour - 1);
            if (found != NEVER) {
                best = way;
                bestHour = found;
            }
        }
        walk.byRule = true;
        if (best == NONE) {
            return NEVER;
        }
        houseTrial(pieces, best);
        tellHomes(pieces);
        return bestHour;
    }

    public int pair(int a, int b, int price) {
        if (!earth.has(a) || !earth.has(b) || a == b || price < 1 || price > MOST_PAY) {
            return NONE;
        }
        if (pairs.count >= MOST_PAIRS || pairs.told(a, b)) {
            return NONE;
        }
        pairs.a[pairs.count] = a;
        pairs.b[pairs.count] = b;
        pairs.price[pairs.count] = price;
        pairs.count++;
        return pairs.count;
    }

    public int whom(int coin, int hour) {
        if (coin < 0 || coin > MOST_COIN || !isHour(hour) || pieces.count == 0) {
            return NONE;
        }
        int best = NONE;
        int bestHour = LAST_HOUR;
        int bestPrice = 0;
        for (int bits = 0; bits < (1 << pairs.count); bits++) {
            int price = pairs.priceOf(bits);
            if (price > coin) {
                continue;
            }
            pairs.bringTogether(earth, bits);
            int found = walk.runToEnd(begunAt(hour), bestHour);
            pairs.takeBack(earth, bits);
            if (found == NEVER) {
                continue;
            }
            if (best == NONE || found < bestHour || price < bestPrice) {
                best = bits;
                bestHour = found;
                bestPrice = price;
            }
        }
        if (best == NONE) {
            return NEVER;
        }
        numbers.clear();
        numbers.tell(best);
        numbers.tell(bestPrice);
        return bestHour;
    }

    public int worth(int hour) {
        if (!isHour(hour) || pieces.count == 0) {
            return NONE;
        }
        if (pairs.count == 0) {
            return NEVER;
        }
        int without = walk.runToEnd(begunAt(hour), LAST_HOUR);
        int best = 0;
        int most = NO_END;
        numbers.clear();
        for (int i = 0; i < pairs.count; i++) {
            pairs.bringTogether(earth, 1 << i);
            int with = walk.runToEnd(begunAt(hour), LAST_HOUR);
            pairs.takeBack(earth, 1 << i);
            int sooner = later(with, without);
            numbers.tell(sooner);
            if (sooner > most) {
                best = i;
                most = sooner;
            }
        }
        return best;
    }

    // ---- what is understood otherwise

    public int wrong(int k) {
        if (k < 0 || k > MOST_CHANCES) {
            return NONE;
        }
        int n = Math.min(state.wrongCount, MOST_CHANCES);
        // hits[j]: in how many of 100 to the nth cases just j were understood otherwise.
        long[] hits = new long[MOST_CHANCES + 1];
        hits[0] = 1;
        long lower = 1;
        for (int i = 0; i < n; i++) {
            int w = state.wrongs[i];
            for (int j = MOST_CHANCES; j >= 0; j--) {
                hits[j] = hits[j] * (100 - w) + (j > 0 ? hits[j - 1] * w : 0);
            }
            lower *= 100;
        }
        long upper = 0;
        for (int j = k; j <= MOST_CHANCES; j++) {
            upper += hits[j];
        }
        numbers.clear();
        numbers.tellFraction(upper, lower);
        return 0;
    }

    public int mean(int hours) {
        if (hours < 1 || hours > 99) {
            return NONE;
        }
        long sum = 0;
        for (int i = 0; i < state.wrongCount; i++) {
            sum += state.wrongs[i];
        }
        numbers.clear();
        numbers.tellFraction(sum * hours, 100);
        return state.wrongCount;
    }

    public int riskiest() {
        if (state.wrongCount == 0) {
            return NEVER;
        }
        int best = 0;
        for (int i = 1; i < state.wrongCount; i++) {
            if (state.wrongs[i] > state.wrongs[best]) {
                best = i;
            }
        }
        numbers.clear();
        numbers.tell(state.wrongs[best]);
        return best;
    }

    // ---- offices to be opened, all in one

    public int site(int length, int pc, int v, int hour) {
        if (length < 1 || length > MOST_LONG || !isStaff(pc) || v < 0 || v > MOST_KNOWN) {
            return NONE;
        }
        if (!isHour(hour) || earth.count >= MOST_OFFICES || pieces.count == 0) {
            return NONE;
        }
        int without = walk.runToEnd(begunAt(hour), LAST_HOUR);
        int number = earth.count;
        earth.count = number + 1;
        earth.putKnownToAll(number, v);
        int best = NEVER;
        int bestHour = LAST_HOUR + 1;
        for (int zone = 0; zone < HOURS_OF_DAY; zone++) {
            earth.offices[number].settle(zone * HOURS_OF_DAY + SITE_FROM, length, SITE_PAY, pc);
            earth.refresh(number, 0, TABLE_HOURS);
            int found = walk.runToEnd(begunAt(hour), bestHour - 1);
            if (found != NEVER) {
                best = zone;
                bestHour = found;
            }
        }
        earth.putKnownToAll(number, 0);
        earth.count = number;
        if (best != NEVER) {
            numbers.clear();
            numbers.tell(bestHour);
            numbers.tell(without == NEVER ? NONE : without);
        }
        return best;
    }

    public int together(int office, int hour) {
        if (!earth.has(office) || !isHour(hour) || pieces.count == 0) {
            return NONE;
        }
        Office home = earth.offices[office];
        int crafts = home.crafts;
        int people = home.people;
        home.people = Math.min(earth.allPeople(), MOST_PEOPLE);
        home.crafts = ALL_CRAFTS;
        walk.byRule = false;
        walk.asking = false;
        begunAt(hour);
        Arrays.fill(trial.at, office);
        int found = walk.runToEnd(trial, LAST_HOUR);
        walk.asking = true;
        walk.byRule = true;
        home.crafts = crafts;
        home.people = people;
        if (found != NEVER) {
            tellEnd(0, 0, 0);
        }
        return found;
    }

    public int sleeps(int office, int day) {
        if (!earth.has(office) || !isDay(day) || pieces.count == 0) {
            return NONE;
        }
        if (earth.offices[office].feasts[day]) {
            return FEAST_ALREADY;
        }
        int without = walk.runToEnd(fromNow(), LAST_HOUR);
        earth.putFeast(office, day, true);
        int with = walk.runToEnd(fromNow(), LAST_HOUR);
        earth.putFeast(office, day, false);
        return later(without, with);
    }

    public int worst(int office, int from, int to) {
        if (!earth.has(office) || !isDay(from) || !isDay(to) || from > to || pieces.count == 0) {
            return NONE;
        }
        int worstDay = NEVER;
        int latest = NONE;
        for (int day = from; day <= to; day++) {
            if (earth.offices[office].feasts[day]) {
                continue;
            }
            earth.putFeast(office, day, true);
            int found = walk.runToEnd(fromNow(), LAST_HOUR);
            earth.putFeast(office, day, false);
            if (found != NEVER && found > latest) {
                worstDay = day;
                latest = found;
            }
        }
        if (worstDay != NEVER) {
            numbers.clear();
            numbers.tell(latest);
        }
        return worstDay;
    }

    public int march(int office, int hour) {
        if (!earth.has(office) || !isHour(hour) || pieces.count == 0) {
            return NONE;
        }
        int without = walk.runToEnd(fromNow(), LAST_HOUR);
        Office marched = earth.offices[office];
        int wasHour = marched.clockHour;
        int wasBy = marched.clockBy;
        marched.clockHour = hour;
        marched.clockBy = 1;
        earth.refresh(office, 0, TABLE_HOURS);
        int with = walk.runToEnd(fromNow(), LAST_HOUR);
        marched.clockHour = wasHour;
        marched.clockBy = wasBy;
        earth.refresh(office, 0, TABLE_HOURS);
        return later(without, with);
    }

    // ---- kept

    public boolean keep(int i) {
        if (i < 0 || i >= kept.length) {
            return false;
        }
        kept[i].copyFrom(state);
        keptPieces[i] = pieces.count;
        return true;
    }

    public boolean again(int i) {
        if (i < 0 || i >= kept.length || keptPieces[i] != pieces.count) {
            return false;
        }
        state.copyFrom(kept[i]);
        return true;
    }

    public int count(int what) {
        switch (what) {
            case 0:
                return earth.count;
            case 1:
                return pieces.count;
            case 2:
                return state.now;
            case 3:
                return state.done;
            case 4:
                return pairs.count;
            case 5:
                return state.allHandings();
            case 6:
                return state.allLost();
            case 7:
                return state.pay;
            case 8:
                return numbers.count;
            case 9:
                return signs;
            default:
                return NONE;
        }
    }

    public long row(int i) throws NoSuchElementException {
        if (i < 0 || i >= numbers.count) {
            throw new NoSuchElementException();
        }
        return numbers.told[i];
    }

    // ---- what several calls share

    private static boolean isHour(int hour) {
        return hour >= 0 && hour <= LAST_HOUR;
    }

    private static boolean isDay(int day) {
        return day >= 0 && day < MOST_DAYS;
    }

    private static boolean isStaff(int pc) {
        return pc >= 64 && pc < 64 * (MOST_PEOPLE + 1) && (pc & ALL_CRAFTS) != 0;
    }

    private static int knownByEntry(int kind, int entry) {
        int told = kind == 0 ? (byte) entry : kind == 1 ? (short) entry : entry;
        return told < 0 ? 0 : told > MOST_KNOWN ? MOST_KNOWN : told;
    }

    /** By how much the second end is later than the first. */
    private static int later(int first, int second) {
        return first == NEVER || second == NEVER ? NO_END : second - first;
    }

    /** The state as it is, to be tried. */
    private State fromNow() {
        trial.copyFrom(state);
        return trial;
    }

    /** The state as of a new begin at an hour, to be tried. */
    private State begunAt(int hour) {
        trial.startAll(pieces, hour);
        return trial;
    }

    /** The row of an end that the trial has just reached, less what there was ahead of it. */
    private void tellEnd(int handings, int lost, int pay) {
        numbers.clear();
        for (int i = 0; i < pieces.count; i++) {
            numbers.tell(trial.doneBy[i]);
        }
        numbers.tell(trial.allHandings() - handings);
        numbers.tell(trial.allLost() - lost);
        numbers.tell(trial.pay - pay);
    }

    /** Puts the told pieces where a way says: its last digit is the home of the last piece. */
    private void houseTrial(int told, int way) {
        if (earth.count < 1) {
            return;
        }
        int rest = way;
        for (int i = MOST_PIECES - 1; i >= 0; i--) {
            if (((told >> i) & 1) == 1) {
                trial.at[i] = rest % earth.count;
                rest /= earth.count;
            }
        }
    }

    private void tellHomes(int told) {
        numbers.clear();
        for (int i = 0; i < MOST_PIECES; i++) {
            if (((told >> i) & 1) == 1) {
                numbers.tell(trial.at[i]);
            }
        }
    }

    /** One office: its hours, its people, its clock and its feasts. */
    private static final class Office {
        int zone;
        int from;
        int length;
        int pay;
        int people;
        int crafts;
        int clockHour;
        int clockBy;
        final boolean[] feasts = new boolean[MOST_DAYS];

        void settle(int times, int length, int pay, int pc) {
            this.zone = times / HOURS_OF_DAY;
            this.from = times % HOURS_OF_DAY;
            this.length = length;
            this.pay = pay;
            this.people = pc / 64;
            this.crafts = pc & ALL_CRAFTS;
        }

        boolean atWork(int hour) {
            int local = hour + zone + (hour >= clockHour ? clockBy : 0);
            int into = Math.floorMod(local - from, HOURS_OF_DAY);
            if (into >= length) {
                return false;
            }
            int day = Math.floorDiv(local - into, HOURS_OF_DAY);
            return !isDay(day) || !feasts[day];
        }
    }

    /** All offices, what they know of one another, and who is at work in which hour. */
    private static final class Earth {
        final Office[] offices = new Office[MOST_OFFICES];
        final int[] known = new int[MOST_OFFICES * MOST_OFFICES];
        // Of each hour the offices at work, as bits: the walks look there again and again.
        final int[] work = new int[TABLE_HOURS];
        // Of each office the same hours, as bits of its longs: a stretch of them is soon looked up.
        private final long[] hours = new long[MOST_OFFICES * TABLE_LONGS];
        int count = 0;
        int lose = 4;
        int miss = 10;

        Earth() {
            for (int o = 0; o < MOST_OFFICES; o++) {
                offices[o] = new Office();
                known[o * MOST_OFFICES + o] = MOST_KNOWN;
            }
        }

        boolean has(int office) {
            return office >= 0 && office < count;
        }

        void refresh(int office, int from, int to) {
            int officeBit = 1 << office;
            for (int h = Math.max(from, 0); h < to && h < TABLE_HOURS; h++) {
                int at = office * TABLE_LONGS + h / BITS_OF_LONG;
                long hourBit = 1L << (h % BITS_OF_LONG);
                boolean works = offices[office].atWork(h);
                work[h] = works ? work[h] | officeBit : work[h] & ~officeBit;
                hours[at] = works ? hours[at] | hourBit : hours[at] & ~hourBit;
            }
        }

        /** In which of the 24 hours from one on both offices are at work, as bits. */
        int bothFrom(int a, int b, int hour) {
            int at = hour / BITS_OF_LONG;
            int gone = hour % BITS_OF_LONG;
            int ofA = a * TABLE_LONGS + at;
            int ofB = b * TABLE_LONGS + at;
            long both = (hours[ofA] & hours[ofB]) >>> gone;
            if (gone > BITS_OF_LONG - HOURS_OF_DAY && at + 1 < TABLE_LONGS) {
                both |= (hours[ofA + 1] & hours[ofB + 1]) << (BITS_OF_LONG - gone);
            }
            return (int) both & WHOLE_DAY;
        }

        void putFeast(int office, int day, boolean is) {
            Office o = offices[office];
            o.feasts[day] = is;
            // The hours of that day's stint, and one more on both sides for a clock that was put.
            int begin = day * HOURS_OF_DAY + o.from - o.zone;
            refresh(office, begin - 1, begin + o.length + 1);
        }

        void putKnown(int a, int b, int v) {
            known[a * MOST_OFFICES + b] = v;
            known[b * MOST_OFFICES + a] = v;
        }

        void putKnownToAll(int office, int v) {
            for (int o = 0; o < count; o++) {
                if (o != office) {
                    putKnown(office, o, v);
                }
            }
        }

        int officesWith(int craft) {
            int able = 0;
            for (int o = 0; o < count; o++) {
                able |= ((offices[o].crafts >> craft) & 1) << o;
            }
            return able;
        }

        int allPeople() {
            int sum = 0;
            for (int o = 0; o < count; o++) {
                sum += offices[o].people;
            }
            return sum;
        }

        /** What is lost from one office to another one that are both at work in these hours. */
        int lostBy(int a, int b, int both) {
            if (a == b) {
                return 0;
            }
            int lost = Math.max(lose - known[a * MOST_OFFICES + b], 0);
            return both == 0 ? lost + LOST_APART : lost;
        }

        int wrongBetween(int a, int b) {
            return miss * (10 - known[a * MOST_OFFICES + b]) / 10;
        }

        /** In how many hours from one on an office is at work next. */
        int nextWork(int office, int hour) {
            for (int i = 0; i < FARTHEST_WORK && hour + i < TABLE_HOURS; i++) {
                if (((work[hour + i] >> office) & 1) == 1) {
                    return i;
                }
            }
            return FARTHEST_WORK;
        }
    }

    /** What is told of the pieces. */
    private static final class Pieces {
        final int[] craft = new int[MOST_PIECES];
        final int[] every = new int[MOST_PIECES];
        final int[] length = new int[MOST_PIECES];
        final int[] after = new int[MOST_PIECES];
        final int[] born = new int[MOST_PIECES];
        final int[] asks = new int[MOST_PIECES];
        int count = 0;

        boolean has(int piece) {
            return piece >= 0 && piece < count;
        }

        int all() {
            return (1 << count) - 1;
        }
    }

    /** THE STATE and THE BOOK. */
    private static final class State {
        int now = 0;
        int done = 0;
        int waits = 0;
        final int[] at = new int[MOST_PIECES];
        final int[] left = new int[MOST_PIECES];
        final int[] since = new int[MOST_PIECES];
        final int[] doneBy = new int[MOST_PIECES];
        final int[] worked = new int[MOST_PIECES];
        final int[] handings = new int[MOST_PIECES];
        final int[] lost = new int[MOST_PIECES];
        int pay = 0;
        final int[] wrongs = new int[MOST_WRONGS];
        int wrongCount = 0;

        void startPiece(Pieces pieces, int i) {
            done &= ~(1 << i);
            waits &= ~(1 << i);
            at[i] = pieces.born[i];
            left[i] = pieces.length[i];
            since[i] = 0;
            doneBy[i] = NONE;
            worked[i] = 0;
            handings[i] = 0;
            lost[i] = 0;
        }

        void startAll(Pieces pieces, int hour) {
            now = hour;
            for (int i = 0; i < pieces.count; i++) {
                startPiece(pieces, i);
            }
            pay = 0;
            wrongCount = 0;
        }

        void copyFrom(State other) {
            now = other.now;
            done = other.done;
            waits = other.waits;
            System.arraycopy(other.at, 0, at, 0, MOST_PIECES);
            System.arraycopy(other.left, 0, left, 0, MOST_PIECES);
            System.arraycopy(other.since, 0, since, 0, MOST_PIECES);
            System.arraycopy(other.doneBy, 0, doneBy, 0, MOST_PIECES);
            System.arraycopy(other.worked, 0, worked, 0, MOST_PIECES);
            System.arraycopy(other.handings, 0, handings, 0, MOST_PIECES);
            System.arraycopy(other.lost, 0, lost, 0, MOST_PIECES);
            pay = other.pay;
            System.arraycopy(other.wrongs, 0, wrongs, 0, MOST_WRONGS);
            wrongCount = other.wrongCount;
        }

        int allHandings() {
            int sum = 0;
            for (int i = 0; i < MOST_PIECES; i++) {
                sum += handings[i];
            }
            return sum;
        }

        int allLost() {
            int sum = 0;
            for (int i = 0; i < MOST_PIECES; i++) {
                sum += lost[i];
            }
            return sum;
        }
    }

    /** How hours go by over a state. */
    private static final class Walk {
        final Earth earth;
        final Pieces pieces;
        final Rule rule;
        // Some questions are asked as if there was no rule, or no asking.
        boolean byRule = true;
        boolean asking = true;
        // Of the hour that went by last: the pieces worked, and how many at each office.
        int workedNow = 0;
        final int[] busy = new int[MOST_OFFICES];
        int waitedAlone = 0;

        Walk(Earth earth, Pieces pieces, Rule rule) {
            this.earth = earth;
            this.pieces = pieces;
            this.rule = rule;
        }

        int readyPieces(State s) {
            int ready = 0;
            for (int i = 0; i < pieces.count; i++) {
                if (((s.done >> i) & 1) == 0 && (pieces.after[i] & ~s.done) == 0) {
                    ready |= 1 << i;
                }
            }
            return ready;
        }

        void hourGoesBy(State s) {
            if (s.now < 0 || s.now >= LAST_HOUR) {
                return;
            }
            int ready = readyPieces(s);
            int working = earth.work[s.now];
            int closing = working & ~earth.work[s.now + 1];
            workReady(s, ready, working);
            if (closing != 0 && byRule && rule.length > 0) {
                handReady(s, ready & ~s.done, closing);
            }
            s.now++;
        }

        private void workReady(State s, int ready, int working) {
            Arrays.fill(busy, 0);
            workedNow = 0;
            for (int i = 0; i < pieces.count; i++) {
                int at = s.at[i];
                if (((ready >> i) & 1) == 0 || ((working >> at) & 1) == 0) {
                    continue;
                }
                if (((s.waits >> i) & 1) == 1) {
                    int asks = pieces.asks[i];
                    if (asks != NONE && ((working >> asks) & 1) == 1) {
                        s.waits &= ~(1 << i);
                    }
                } else if (canWork(i, at) && busy[at] < earth.offices[at].people) {
                    workOn(s, i);
                }
            }
        }

        private boolean canWork(int piece, int office) {
            return ((earth.offices[office].crafts >> pieces.craft[piece]) & 1) == 1;
        }

        private void workOn(State s, int i) {
            int at = s.at[i];
            busy[at]++;
            workedNow |= 1 << i;
            s.worked[i]++;
            s.pay += earth.offices[at].pay;
            s.left[i]--;
            s.since[i]++;
            if (s.left[i] == 0) {
                s.done |= 1 << i;
                s.doneBy[i] = s.now + 1;
            } else if (asking && pieces.asks[i] != NONE && s.since[i] == pieces.every[i]) {
                s.waits |= 1 << i;
                s.since[i] = 0;
            }
        }

        private void handReady(State s, int ready, int closing) {
            int next = s.now + 1;
            for (int i = 0; i < pieces.count; i++) {
                if (((ready >> i) & 1) == 0 || ((closing >> s.at[i]) & 1) == 0) {
                    continue;
                }
                int best = 0;
                int most = valueFor(s, i, 0, next);
                for (int o = 1; o < earth.count; o++) {
                    int here = valueFor(s, i, o, next);
                    if (here > most) {
                        best = o;
                        most = here;
                    }
                }
                if (best != s.at[i]) {
                    handTo(s, i, best, next);
                }
            }
        }

        int handTo(State s, int piece, int office, int hour) {
            int from = s.at[piece];
            int lost = earth.lostBy(from, office, earth.bothFrom(from, office, hour));
            s.at[piece] = office;
            s.left[piece] += lost;
            s.lost[piece] += lost;
            s.handings[piece]++;
            if (s.wrongCount < MOST_WRONGS) {
                s.wrongs[s.wrongCount] = earth.wrongBetween(from, office);
                s.wrongCount++;
            }
            return lost;
        }

        /** The value of the rule, its letters looked up for a piece, an office and an hour. */
        int valueFor(State s, int piece, int office, int hour) {
            rule.depth = 0;
            for (int i = 0; i < rule.length; i++) {
                int code = rule.code[i];
                if (code >= OPERATOR_CODE) {
                    rule.apply(code - OPERATOR_CODE);
                } else if (code >= LETTER_CODE) {
                    rule.push(letterFor(code - LETTER_CODE, s, piece, office, hour));
                } else {
                    rule.push(code);
                }
            }
            return rule.pop();
        }

        private int letterFor(int letter, State s, int piece, int office, int hour) {
            int at = s.at[piece];
            switch (letter) {
                case 'k':
                    return earth.known[at * MOST_OFFICES + office];
                case 'l':
                    return earth.lostBy(at, office, earth.bothFrom(at, office, hour));
                case 'o':
                    return Integer.bitCount(earth.bothFrom(at, office, hour));
                case 'w':
                    return (earth.work[hour] >> office) & 1;
                case 'r':
                    return earth.nextWork(office, hour);
                case 'c':
                    return canWork(piece, office) ? 1 : 0;
                case 's':
                    return at == office ? 1 : 0;
                case 'b':
                    return pieces.born[piece] == office ? 1 : 0;
                case 'q':
                    return pieces.asks[piece] == office ? 1 : 0;
                case 'p':
                    return earth.offices[office].pay;
                case 'f':
                    return s.left[piece];
                default:
                    return office;
            }
        }

        /** Lets hours go by till all pieces are done: that hour, or NEVER if it is behind the limit. */
        int runToEnd(State s, int limit) {
            int all = pieces.all();
            if (isHopeless(s)) {
                return NEVER;
            }
            for (int h = s.now; h < limit && h < LAST_HOUR && s.done != all; h++) {
                hourGoesBy(s);
            }
            return s.done == all ? s.now : NEVER;
        }

        /** Spares a walk through all hours: a piece that no office it can come to is able to work. */
        private boolean isHopeless(State s) {
            boolean handed = byRule && rule.length > 0;
            for (int i = 0; i < pieces.count; i++) {
                int able = earth.officesWith(pieces.craft[i]);
                int reach = handed ? able : able & (1 << s.at[i]);
                if (((s.done >> i) & 1) == 0 && reach == 0) {
                    return true;
                }
            }
            return false;
        }

        /** The first piece of some that an office could have worked in the hour gone by, and it. */
        int idleThough(int idle, int hour) {
            for (int i = 0; i < pieces.count; i++) {
                for (int o = 0; o < earth.count && ((idle >> i) & 1) == 1; o++) {
                    boolean working = ((earth.work[hour] >> o) & 1) == 1;
                    if (working && canWork(i, o) && busy[o] < earth.offices[o].people) {
                        return i * MOST_OFFICES + o;
                    }
                }
            }
            return NONE;
        }

        /** A piece alone at an office: the hour by which it is done; how long it waited is kept. */
        int doneAlone(int piece, int office, int hour, int limit) {
            waitedAlone = 0;
            if (!canWork(piece, office)) {
                return NEVER;
            }
            int asks = pieces.asks[piece];
            int left = pieces.length[piece];
            int since = 0;
            boolean waiting = false;
            for (int h = hour; h < limit; h++) {
                boolean here = ((earth.work[h] >> office) & 1) == 1;
                if (waiting) {
                    waitedAlone++;
                    waiting = !here || asks == NONE || ((earth.work[h] >> asks) & 1) == 0;
                } else if (here) {
                    left--;
                    since++;
                    if (left == 0) {
                        return h + 1;
                    }
                    waiting = asks != NONE && since == pieces.every[piece];
                    since = waiting ? 0 : since;
                }
            }
            return NEVER;
        }
    }

    /** THE RULE as a row of codes, each operator behind what it binds, and the stack it is told on. */
    private static final class Rule {
        final int[] code = new int[MOST_RULE_SIGNS];
        int length = 0;
        final int[] stack = new int[MOST_RULE_SIGNS];
        int depth = 0;

        void take(int[] from, int n) {
            System.arraycopy(from, 0, code, 0, n);
            length = n;
        }

        void push(int v) {
            if (depth < stack.length) {
                stack[depth] = v;
                depth++;
            }
        }

        int pop() {
            if (depth == 0) {
                return 0;
            }
            depth--;
            return stack[depth];
        }

        void apply(int operator) {
            int b = pop();
            if (operator == '!') {
                push(b == 0 ? 1 : 0);
            } else if (operator == UNARY_MINUS) {
                push(-b);
            } else {
                push(joined(operator, pop(), b));
            }
        }

        private static int joined(int operator, int a, int b) {
            switch (operator) {
                case '|':
                    return a != 0 || b != 0 ? 1 : 0;
                case '&':
                    return a != 0 && b != 0 ? 1 : 0;
                case '<':
                    return a < b ? 1 : 0;
                case '>':
                    return a > b ? 1 : 0;
                case '=':
                    return a == b ? 1 : 0;
                case '+':
                    return a + b;
                case '-':
                    return a - b;
                default:
                    return a * b;
            }
        }
    }

    /** Reads a text as a rule, sign by sign, so that the first sign that can't stand is found. */
    private static final class RuleReader {
        final int[] code = new int[MOST_RULE_SIGNS];
        int length = 0;
        // Operators and open brackets whose right end is not read yet.
        private final int[] pending = new int[MOST_RULE_SIGNS];
        private int pendingCount = 0;
        private int depth = 0;
        // Whether there is a comparison already that another one would stand behind, by brackets.
        private final boolean[] compared = new boolean[MOST_DEPTH + 1];
        private boolean thingDue = true;
        private int digits = 0;

        /** NONE if it is a rule, else the place of the sign that can't stand there. */
        int read(char[] text, int count) {
            length = 0;
            pendingCount = 0;
            depth = 0;
            compared[0] = false;
            thingDue = true;
            digits = 0;
            int n = Math.min(Math.min(count, MOST_RULE_SIGNS), text.length);
            for (int p = 0; p < n; p++) {
                boolean stands = thingDue ? takeThing(text[p]) : takeBehindThing(text[p]);
                if (!stands) {
                    return p;
                }
            }
            if (count > MOST_RULE_SIGNS || thingDue || depth > 0) {
                return n;
            }
            closeDownTo(0);
            return NONE;
        }

        private boolean takeThing(char sign) {
            if (sign == '!' || sign == '-') {
                putPending(sign == '-' ? UNARY_MINUS : sign);
                return true;
            }
            if (sign == '(') {
                return takeBracket();
            }
            if (isDigit(sign)) {
                putCode(sign - '0');
                digits = 1;
            } else if (LETTERS.indexOf(sign) >= 0) {
                putCode(LETTER_CODE + sign);
                digits = 0;
            } else {
                return false;
            }
            thingDue = false;
            return true;
        }

        private boolean takeBracket() {
            if (depth == MOST_DEPTH) {
                return false;
            }
            depth++;
            compared[depth] = false;
            putPending('(');
            return true;
        }

        private boolean takeBehindThing(char sign) {
            if (isDigit(sign)) {
                return takeDigit(sign);
            }
            digits = 0;
            if (sign == ')') {
                return takeClosing();
            }
            int level = levelOf(sign);
            boolean compares = level == COMPARING_LEVEL;
            if (level == 0 || level == UNARY_LEVEL || (compares && compared[depth])) {
                return false;
            }
            if (level <= COMPARING_LEVEL) {
                compared[depth] = compares;
            }
            closeDownTo(level);
            putPending(sign);
            thingDue = true;
            return true;
        }

        private boolean takeDigit(char sign) {
            if (digits == 0 || digits == MOST_DIGITS || length == 0) {
                return false;
            }
            code[length - 1] = code[length - 1] * 10 + (sign - '0');
            digits++;
            return true;
        }

        private boolean takeClosing() {
            if (depth == 0) {
                return false;
            }
            closeDownTo(0);
            pendingCount = pendingCount > 0 ? pendingCount - 1 : 0;
            depth--;
            return true;
        }

        /** Operators that bind at least so much are complete, as far as the last open bracket. */
        private void closeDownTo(int level) {
            for (int i = pendingCount - 1; i >= 0; i--) {
                if (pending[i] == '(' || levelOf(pending[i]) < level) {
                    return;
                }
                putCode(OPERATOR_CODE + pending[i]);
                pendingCount = i;
            }
        }

        private void putCode(int c) {
            if (length < code.length) {
                code[length] = c;
                length++;
            }
        }

        private void putPending(int sign) {
            if (pendingCount < pending.length) {
                pending[pendingCount] = sign;
                pendingCount++;
            }
        }

        private static boolean isDigit(char sign) {
            return sign >= '0' && sign <= '9';
        }

        /** How much an operator binds; 0 for what is none. */
        private static int levelOf(int sign) {
            switch (sign) {
                case '|':
                    return 1;
                case '&':
                    return 2;
                case '<':
                case '>':
                case '=':
                    return COMPARING_LEVEL;
                case '+':
                case '-':
                    return 4;
                case '*':
                    return 5;
                case '!':
                case UNARY_MINUS:
                    return UNARY_LEVEL;
                default:
                    return 0;
            }
        }
    }

    /**
     * All rows of offices that a piece can be handed along, as a tree: by their handings, and those
     * of equally many from the least on, so that of equal ones the first is the one to tell.
     */
    private static final class Ways {
        final Earth earth;
        final int[] parent = new int[MOST_WAYS];
        final int[] office = new int[MOST_WAYS];
        final int[] handings = new int[MOST_WAYS];
        int count = 0;
        int best = 0;
        // Of each row the least hours left; for the cheapest by hours left the least pay.
        private final int[] left = new int[MOST_WAYS];
        private final int[] pay = new int[MOST_CHEAP_WAYS * (MOST_CHEAP_LEFT + 1)];
        private final int[] lost = new int[MOST_OFFICES * MOST_OFFICES];

        Ways(Earth earth) {
            this.earth = earth;
        }

        void grow(int born, int most) {
            parent[0] = NONE;
            office[0] = born;
            handings[0] = 0;
            count = 1;
            int from = 0;
            for (int level = 1; level <= most; level++) {
                int to = count;
                for (int n = from; n < to; n++) {
                    branch(n, level);
                }
                from = to;
            }
        }

        private void branch(int n, int level) {
            for (int o = 0; o < earth.count && count < MOST_WAYS; o++) {
                if (o != office[n]) {
                    parent[count] = n;
                    office[count] = o;
                    handings[count] = level;
                    count++;
                }
            }
        }

        /** The soonest hour to the limit, and in best its row; NEVER if there is none. */
        int soonest(Pieces pieces, int piece, int hour, int limit) {
            int able = earth.officesWith(pieces.craft[piece]);
            if (able == 0) {
                return NEVER;
            }
            Arrays.fill(left, FAR);
            left[0] = pieces.length[piece];
            for (int h = hour; h < limit; h++) {
                int working = earth.work[h] & able;
                for (int n = 0; n < count; n++) {
                    left[n] -= (working >> office[n]) & 1;
                    if (left[n] == 0) {
                        best = n;
                        return h + 1;
                    }
                }
                loseFrom(h + 1);
                // From the last on: a row must not be handed twice behind one hour.
                for (int n = count - 1; n > 0; n--) {
                    int p = parent[n];
                    int handed = left[p] + lost[office[p] * MOST_OFFICES + office[n]];
                    left[n] = handed < left[n] ? handed : left[n];
                }
            }
            return NEVER;
        }

        /** The least pay to the end, and in best its row; NEVER if there is none. */
        int cheapest(Pieces pieces, int piece, int hour, int end) {
            int able = earth.officesWith(pieces.craft[piece]);
            int n = Math.min(count, MOST_CHEAP_WAYS);
            Arrays.fill(pay, FAR);
            pay[pieces.length[piece]] = 0;
            for (int h = hour; h < end; h++) {
                int working = earth.work[h] & able;
                for (int i = 0; i < n; i++) {
                    if (((working >> office[i]) & 1) == 1) {
                        workForPay(i);
                    }
                }
                loseFrom(h + 1);
                // From the last on, as for the soonest.
                for (int i = n - 1; i > 0; i--) {
                    handForPay(i);
                }
            }
            best = 0;
            for (int i = 1; i < n; i++) {
                if (pay[i * (MOST_CHEAP_LEFT + 1)] < pay[best * (MOST_CHEAP_LEFT + 1)]) {
                    best = i;
                }
            }
            int least = pay[best * (MOST_CHEAP_LEFT + 1)];
            return least >= FAR ? NEVER : least;
        }

        private void workForPay(int way) {
            int first = way * (MOST_CHEAP_LEFT + 1);
            int wage = earth.offices[office[way]].pay;
            for (int i = first; i < first + MOST_CHEAP_LEFT; i++) {
                int worked = pay[i + 1] + wage;
                pay[i] = worked < pay[i] ? worked : pay[i];
            }
        }

        private void handForPay(int way) {
            int above = parent[way];
            int more = lost[office[above] * MOST_OFFICES + office[way]];
            int from = above * (MOST_CHEAP_LEFT + 1);
            int to = way * (MOST_CHEAP_LEFT + 1) + more;
            for (int hours = 1; hours + more <= MOST_CHEAP_LEFT; hours++) {
                int handed = pay[from + hours];
                pay[to + hours] = handed < pay[to + hours] ? handed : pay[to + hours];
            }
        }

        /** What is lost between all offices from an hour on. */
        private void loseFrom(int hour) {
            for (int a = 0; a < earth.count; a++) {
                for (int b = 0; b < a; b++) {
                    int ab = a * MOST_OFFICES + b;
                    lost[ab] = earth.lostBy(a, b, earth.bothFrom(a, b, hour));
                    lost[b * MOST_OFFICES + a] = lost[ab];
                }
            }
        }

        void tellBest(Numbers numbers) {
            int n = handings[best];
            numbers.clear();
            numbers.tell(n);
            for (int i = 1; i <= n; i++) {
                int way = best;
                for (int up = n; up > i; up--) {
                    way = parent[way];
                }
                numbers.tell(office[way]);
            }
        }
    }

    /** Offices that could be brought together. */
    private static final class Pairs {
        final int[] a = new int[MOST_PAIRS];
        final int[] b = new int[MOST_PAIRS];
        final int[] price = new int[MOST_PAIRS];
        private final int[] was = new int[MOST_PAIRS];
        int count = 0;

        boolean told(int x, int y) {
            for (int i = 0; i < count; i++) {
                if ((a[i] == x && b[i] == y) || (a[i] == y && b[i] == x)) {
                    return true;
                }
            }
            return false;
        }

        int priceOf(int bits) {
            int sum = 0;
            for (int i = 0; i < count; i++) {
                sum += ((bits >> i) & 1) * price[i];
            }
            return sum;
        }

        void bringTogether(Earth earth, int bits) {
            for (int i = 0; i < count; i++) {
                was[i] = earth.known[a[i] * MOST_OFFICES + b[i]];
                if (((bits >> i) & 1) == 1) {
                    earth.putKnown(a[i], b[i], Math.min(was[i] + MORE_KNOWN, MOST_KNOWN));
                }
            }
        }

        void takeBack(Earth earth, int bits) {
            for (int i = 0; i < count; i++) {
                if (((bits >> i) & 1) == 1) {
                    earth.putKnown(a[i], b[i], was[i]);
                }
            }
        }
    }

    /** The ROW. */
    private static final class Numbers {
        // Eight pieces and three sums are the most that a call tells.
        final long[] told = new long[MOST_PIECES + 3];
        int count = 0;

        void clear() {
            count = 0;
        }

        void tell(long v) {
            if (count < told.length) {
                told[count] = v;
                count++;
            }
        }

        void tellFraction(long upper, long lower) {
            long a = upper;
            long b = lower;
            // A hundred steps are far more than Euclid's way takes for longs.
            for (int i = 0; i < 100 && b != 0; i++) {
                long rest = a % b;
                a = b;
                b = rest;
            }
            if (a == 0) {
                a = 1;
            }
            tell(upper / a);
            tell(lower / a);
        }
    }
}
