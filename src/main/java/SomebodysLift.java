import java.util.Arrays;

/** A glider that circles in lifts and glides home; DOC.md tells what each call answers. */
public final class SomebodysLift {
    public static final int NONE = -1, BAD = -2, STATE = -3, FULL = -4;
    public static final long NO = Long.MIN_VALUE;

    private static final int NOT_SO = -5;
    private static final int NOTHING = -11, CAST = -12, PLACE = -13, SIZE = -14;
    // Where an answer may itself be below 0, the refusals stand lower.
    private static final int NONE_BELOW = -1001, STATE_BELOW = -1002;

    private static final int LIFT = 0, STRONG = 1, WEAK = 2, LATE = 3, CAPPED = 4, WANDERING = 5, TOLD = 6;
    private static final int[] KIND_ABOVE = {-1, LIFT, LIFT, LIFT, STRONG, WEAK, LATE};

    private static final int MOST_LIFTS = 6, MOST_AIRS = 6, MOST_BYTES = 100, MOST_TAPES = 6, MOST_ITEMS = 60;
    private static final int MOST_HEIGHT = 400, MOST_MILE = 99, MOST_V = 9, MOST_PULL = 20, MOST_PACE = 9;
    private static final int SAFE_WITHOUT = 80;
    private static final int MOST_MINUTES = 60, MOST_MINUTES_OF_TWO = 40, LAST_MINUTE = 9999;
    // More than any way home comes to, as quickest packs them.
    private static final int NO_FLIGHT_HOME = 1000000000, WORTH_OF_NONE = 999;
    private static final int BYTES = 0, SHORTS = 1, INTS = 2, BOOLEANS = 4;

    private final Air calm = new Air();
    private final State now = new State(calm);
    private final State kept = new State(calm);
    private final Glider trial = new Glider();
    private final AirReader text = new AirReader(calm);
    private final Air[] airs = new Air[MOST_AIRS];
    private final int[] bodies = new int[20];
    private final Tape[] tapes = new Tape[MOST_TAPES];
    private int airCount = 0;
    private int bodiesRun = 0;
    private boolean imaged = false;

    public SomebodysLift() {
        for (int i = 0; i < tapes.length; i++) {
            tapes[i] = new Tape();
        }
    }

    // ---- lifts, airs, the glider

    public int lift(int kind, int v, int mile, int pull) {
        if (!isKind(kind)) {
            return NONE;
        }
        if (!isWithin(v, 0, MOST_V) || !isMile(mile) || !isWithin(pull, 0, MOST_PULL)) {
            return BAD;
        }
        if (now.liftCount >= MOST_LIFTS) {
            return FULL;
        }
        now.lifts[now.liftCount].begin(kind, v, mile, pull);
        now.liftCount++;
        return now.liftCount - 1;
    }

    public int of(int lift, int what) {
        if (!isLift(lift)) {
            return NONE_BELOW;
        }
        Lift it = now.lifts[lift];
        switch (what) {
            case 0: return it.kind;
            case 1: return it.v;
            case 2: return it.mile;
            case 3: return it.pull;
            case 4: return it.gain(now.air, now.glider.height, now.glider.minute);
            case 5: return it.climb(now.air, now.glider.height, now.glider.minute);
            default: return NONE_BELOW;
        }
    }

    public int pull(int lift, int n) {
        if (!isLift(lift)) {
            return NONE;
        }
        if (!isWithin(n, 0, MOST_PULL)) {
            return BAD;
        }
        int was = now.lifts[lift].pull;
        now.lifts[lift].pull = n;
        return was;
    }

    public int row(int lift, int part, int n) {
        if (!isLift(lift) || !isWithin(part, 0, 3)) {
            return NONE;
        }
        if (!isWithin(n, 0, 9)) {
            return BAD;
        }
        Lift it = now.lifts[lift];
        if (it.kind != TOLD) {
            return STATE;
        }
        int was = it.row[part];
        it.row[part] = n;
        return was;
    }

    public int feed(int sign) {
        if (!isWithin(sign, 0, 127)) {
            return BAD;
        }
        if (text.length >= MOST_BYTES) {
            return FULL;
        }
        text.bytes[text.length] = (byte) sign;
        text.length++;
        return text.length;
    }

    public int air() {
        if (airCount >= MOST_AIRS) {
            return FULL;
        }
        // A fault leaves its AIR unused: the next text is read into it.
        if (airs[airCount] == null) {
            airs[airCount] = new Air();
        }
        Air fresh = airs[airCount];
        boolean isAir = text.parse(fresh);
        text.length = 0;
        if (!isAir) {
            return -10 - text.at;
        }
        now.air = fresh;
        airCount++;
        return airCount - 1;
    }

    public int home(int mile) {
        if (!isMile(mile)) {
            return BAD;
        }
        int was = now.home;
        now.home = mile;
        return was;
    }

    public int height(int n) {
        if (!isWithin(n, 0, MOST_HEIGHT)) {
            return BAD;
        }
        int was = now.glider.height;
        now.glider.height = n;
        return was;
    }

    public int told(int what) {
        switch (what) {
            case 0: return now.glider.minute;
            case 1: return now.glider.mile;
            case 2: return now.glider.height;
            case 3: return now.in;
            case 4: return now.home;
            case 5: return now.air.base;
            case 6: return now.air.safe;
            default: return NONE;
        }
    }

    // ---- flying

    public int enter(int lift) {
        if (!isLift(lift)) {
            return NONE_BELOW;
        }
        Lift it = now.lifts[lift];
        if (it.mile != now.glider.mile) {
            return STATE_BELOW;
        }
        now.in = lift;
        return it.climb(now.air, now.glider.height, now.glider.minute);
    }

    public int turn(int n) {
        if (!isWithin(n, 0, MOST_MINUTES)) {
            return BAD;
        }
        if (!isLift(now.in) || now.glider.minute + n > LAST_MINUTE) {
            return STATE;
        }
        now.glider.circles(now.lifts[now.in], now.air, n);
        return now.glider.height;
    }

    public int glide(int mile, int pace) {
        if (!isMile(mile) || !isPace(pace)) {
            return BAD;
        }
        trial.copyFrom(now.glider);
        if (!trial.glides(mile, pace) || trial.minute > LAST_MINUTE) {
            return STATE;
        }
        now.glider.copyFrom(trial);
        now.in = NOT_SO;
        return now.glider.height;
    }

    // ---- up, over

    public int up(int lift, int n) {
        if (!isLift(lift)) {
            return NONE;
        }
        if (!isWithin(n, 0, MOST_MINUTES)) {
            return BAD;
        }
        return heightBehind(lift, n);
    }

    public int top(int lift, int what) {
        if (!isLift(lift) || !isWithin(what, 0, 1)) {
            return NONE;
        }
        trial.copyFrom(now.glider);
        int highest = trial.height;
        int when = 0;
        for (int n = 1; n <= MOST_MINUTES; n++) {
            trial.circles(now.lifts[lift], now.air, 1);
            if (trial.height > highest) {
                highest = trial.height;
                when = n;
            }
        }
        return what == 0 ? highest : when;
    }

    public int arrives(int mile, int pace) {
        if (!isMile(mile) || !isPace(pace)) {
            return BAD;
        }
        trial.copyFrom(now.glider);
        return trial.glides(mile, pace) ? trial.height : NOT_SO;
    }

    public int outed(int mile, int pace) {
        if (!isMile(mile) || !isPace(pace)) {
            return BAD;
        }
        return Math.min(Math.abs(mile - now.glider.mile), now.glider.height / Glider.sinkOfMile(pace));
    }

    public int reach(int pace) {
        if (!isPace(pace)) {
            return BAD;
        }
        int bits = 0;
        for (int i = 0; i < now.liftCount; i++) {
            if (arrivesSafely(now.lifts[i].mile, pace)) {
                bits |= 1 << i;
            }
        }
        return bits;
    }

    public int next(int pace) {
        if (!isPace(pace)) {
            return BAD;
        }
        int first = NOT_SO;
        int greatest = 0;
        for (int i = 0; i < now.liftCount; i++) {
            Lift it = now.lifts[i];
            if (arrivesSafely(it.mile, pace)) {
                int climb = it.climb(now.air, trial.height, trial.minute);
                if (first == NOT_SO || climb > greatest) {
                    first = i;
                    greatest = climb;
                }
            }
        }
        return first;
    }

    public int lowest(int lift, int pace) {
        if (!isLift(lift)) {
            return NONE;
        }
        if (!isPace(pace)) {
            return BAD;
        }
        int least = heightFor(now.glider.mile, now.lifts[lift].mile, pace);
        return least > MOST_HEIGHT ? NOT_SO : least;
    }

    // ---- home

    public int by(int lift, int pace, int what) {
        if (!isLift(lift) || !isWithin(what, 0, 1)) {
            return NONE;
        }
        if (!isPace(pace)) {
            return BAD;
        }
        trial.copyFrom(now.glider);
        if (!risesToLeave(now.lifts[lift], pace, now.home, MOST_MINUTES)) {
            return NOT_SO;
        }
        return what == 0 ? minutesHome(pace) : trial.height;
    }

    public int straight(int pace) {
        if (!isPace(pace)) {
            return BAD;
        }
        return arrivesSafely(now.home, pace) ? trial.minute - now.glider.minute : NOT_SO;
    }

    public int best(int what) {
        if (!isWithin(what, 0, 2)) {
            return NONE_BELOW;
        }
        int found = quickest(NOT_SO);
        if (found == NO_FLIGHT_HOME) {
            return NOT_SO;
        }
        switch (what) {
            case 0: return found / 10 % 10 - 1;
            case 1: return found % 10;
            default: return found / 100;
        }
    }

    public int two(int pace, int what) {
        if (!isWithin(what, 0, 1)) {
            return NONE;
        }
        if (!isPace(pace)) {
            return BAD;
        }
        int which = NOT_SO;
        int fewest = NO_FLIGHT_HOME;
        for (int a = 0; a < now.liftCount; a++) {
            for (int b = 0; b < now.liftCount; b++) {
                int minutes = a == b ? NO_FLIGHT_HOME : minutesByTwo(now.lifts[a], now.lifts[b], pace);
                if (minutes < fewest) {
                    fewest = minutes;
                    which = 10 * a + b;
                }
            }
        }
        return what == 0 || which == NOT_SO ? which : fewest;
    }

    public int worth(int lift) {
        if (!isLift(lift)) {
            return NONE;
        }
        return minutesForWorth(quickest(lift)) - minutesForWorth(quickest(NOT_SO));
    }

    // ---- flights

    public int leg(int lift, int n) {
        return tellRow(now.flight, lift, n, 0, MOST_MINUTES);
    }

    public int flown(int pace, int what) {
        if (!isWithin(what, 0, 1)) {
            return NONE;
        }
        if (!isPace(pace)) {
            return BAD;
        }
        trial.copyFrom(now.glider);
        for (int r = 0; r < now.flight.count; r++) {
            Lift it = now.lifts[now.flight.lifts[r]];
            if (!trial.glides(it.mile, pace)) {
                return NOT_SO;
            }
            trial.circles(it, now.air, now.flight.numbers[r]);
        }
        if (!trial.glides(now.home, pace)) {
            return NOT_SO;
        }
        return what == 0 ? trial.height : trial.minute - now.glider.minute;
    }

    // ---- seen, odds, books

    public int see(int n) {
        if (n == -100) {
            now.seen.count = 0;
            return 0;
        }
        return isWithin(n, -99, 99) ? now.seen.add(0, n) : BAD;
    }

    public int who() {
        int bits = 0;
        for (int i = 0; i < now.liftCount; i++) {
            if (wouldBeAsSeen(now.lifts[i])) {
                bits |= 1 << i;
            }
        }
        return bits;
    }

    public long odds(int h, int n, int part) {
        if (!isWithin(h, 0, MOST_HEIGHT) || !isWithin(n, 0, MOST_MINUTES)) {
            return NO;
        }
        int high = 0;
        for (int i = 0; i < now.liftCount; i++) {
            if (heightBehind(i, n) >= h) {
                high++;
            }
        }
        return partOfFraction(high, now.liftCount, part);
    }

    public long mean(int n, int part) {
        if (!isWithin(n, 0, MOST_MINUTES)) {
            return NO;
        }
        int sum = 0;
        for (int i = 0; i < now.liftCount; i++) {
            sum += heightBehind(i, n);
        }
        return partOfFraction(sum, now.liftCount, part);
    }

    public int book(int lift, int climb) {
        return tellRow(now.book, lift, climb, -99, 99);
    }

    public int looked() {
        for (int r = 0; r < now.book.count; r++) {
            Lift it = now.lifts[now.book.lifts[r]];
            if (it.climb(now.air, now.glider.height, now.glider.minute) != now.book.numbers[r]) {
                return r;
            }
        }
        return NOT_SO;
    }

    // ---- judging, the image, acts, tapes

    public int judge(int tape, int i) {
        if (!isTape(tape)) {
            return NONE;
        }
        Tape it = tapes[tape];
        if (it.holds() && it.sort != BYTES) {
            return CAST;
        }
        for (int k = 0; k < now.liftCount; k++) {
            if (i < 0 || i >= it.size - k) {
                return 100 + k;
            }
            if (it.items[i + k] != now.lifts[k].mile) {
                return k;
            }
        }
        return NOT_SO;
    }

    public int image() {
        kept.copyFrom(now);
        imaged = true;
        return now.liftCount;
    }

    public int undo() {
        if (!imaged) {
            return STATE;
        }
        now.copyFrom(kept);
        return now.liftCount;
    }

    public int act(int lift, int act, int x) {
        bodiesRun = 0;
        if (!isLift(lift)) {
            return 0;
        }
        Lift it = now.lifts[lift];
        switch (act) {
            case 0: return turns(it, it.kind, x);
            case 1: return climbs(it, it.kind, x);
            case 2: return tells(it, it.kind, x);
            default: return 0;
        }
    }

    public int trace(int i) {
        return i >= 0 && i < bodiesRun && i < bodies.length ? bodies[i] : NONE;
    }

    public int taken(int lift, int k) {
        if (!isKind(k)) {
            return BAD;
        }
        if (!isLift(lift)) {
            return NOTHING;
        }
        int above = now.lifts[lift].kind;
        for (int steps = 0; steps < KIND_ABOVE.length && isKind(above) && above != k; steps++) {
            above = KIND_ABOVE[above];
        }
        return above == k ? now.lifts[lift].kind : CAST;
    }

    public int count(int what) {
        switch (what) {
            case 0: return now.liftCount;
            case 1: return airCount;
            case 2: return now.flight.count;
            case 3: return now.seen.count;
            case 4: return now.book.count;
            case 5: return text.length;
            case 6: return bodiesRun;
            default: return BAD;
        }
    }

    public int tape(int tape, int sort, int n) {
        if (!isTape(tape)) {
            return NONE;
        }
        if (sort == Tape.NO_SORT) {
            tapes[tape].begin(sort, 0);
            return 1;
        }
        if (!isWithin(sort, BYTES, BOOLEANS) || n > MOST_ITEMS) {
            return BAD;
        }
        if (n < 0) {
            return SIZE;
        }
        tapes[tape].begin(sort, n);
        return 1;
    }

    public int item(int tape, int i, long v) {
        if (!isTape(tape)) {
            return NONE;
        }
        Tape it = tapes[tape];
        if (!it.holds()) {
            return NOTHING;
        }
        if (i < 0 || i >= it.size) {
            return PLACE;
        }
        it.items[i] = it.cut(v);
        return 1;
    }

    public long read(int tape, int i) {
        if (!isTape(tape) || i < 0 || i >= tapes[tape].size) {
            return NO;
        }
        return tapes[tape].items[i];
    }

    public int shift(int tape, int i, int other, int j, int n) {
        if (!isTape(tape) || !isTape(other)) {
            return NONE;
        }
        Tape from = tapes[tape];
        Tape to = tapes[other];
        if (!from.holds() || !to.holds()) {
            return NOTHING;
        }
        if (from.sort != to.sort) {
            return CAST;
        }
        // With n at 0 or more the differences stay within an int, as sums might not.
        if (n < 0 || i < 0 || j < 0 || i > from.size - n || j > to.size - n) {
            return PLACE;
        }
        System.arraycopy(from.items, i, to.items, j, n);
        return n;
    }

    // ---- what numbers may be

    private static boolean isWithin(int n, int least, int most) {
        return n >= least && n <= most;
    }

    private static boolean isKind(int kind) {
        return isWithin(kind, LIFT, TOLD);
    }

    private static boolean isMile(int mile) {
        return isWithin(mile, 0, MOST_MILE);
    }

    private static boolean isPace(int pace) {
        return isWithin(pace, 1, MOST_PACE);
    }

    private static boolean isTape(int tape) {
        return isWithin(tape, 0, MOST_TAPES - 1);
    }

    private boolean isLift(int lift) {
        return lift >= 0 && lift < now.liftCount;
    }

    // ---- trials: each goes on from how all is, in a glider of its own

    /** The least HEIGHT with which one arrives at a MILE with SAFE or more. */
    private int heightFor(int from, int to, int pace) {
        return Math.abs(to - from) * Glider.sinkOfMile(pace) + now.air.safe;
    }

    /** The trial glides from where the glider is; it is there then, unless it is out. */
    private boolean arrivesSafely(int mile, int pace) {
        trial.copyFrom(now.glider);
        return trial.glides(mile, pace) && trial.height >= now.air.safe;
    }

    private int heightBehind(int lift, int n) {
        trial.copyFrom(now.glider);
        trial.circles(now.lifts[lift], now.air, n);
        return trial.height;
    }

    /** The trial glides on to a lift and climbs till it may leave it for a MILE; whether it may. */
    private boolean risesToLeave(Lift it, int pace, int to, int mostMinutes) {
        if (!trial.glides(it.mile, pace)) {
            return false;
        }
        int enough = heightFor(it.mile, to, pace);
        for (int n = 0; n < mostMinutes && trial.height < enough; n++) {
            trial.circles(it, now.air, 1);
        }
        return trial.height >= enough;
    }

    /** The MINUTES of the whole trial, if it goes home from where it is. */
    private int minutesHome(int pace) {
        return trial.glides(now.home, pace) ? trial.minute - now.glider.minute : NO_FLIGHT_HOME;
    }

    private int minutesByTwo(Lift first, Lift second, int pace) {
        trial.copyFrom(now.glider);
        if (!risesToLeave(first, pace, second.mile, MOST_MINUTES_OF_TWO)) {
            return NO_FLIGHT_HOME;
        }
        if (!risesToLeave(second, pace, now.home, MOST_MINUTES_OF_TWO)) {
            return NO_FLIGHT_HOME;
        }
        return minutesHome(pace);
    }

    /**
     * The quickest way home without one lift (or with all, where there is no such number): its
     * MINUTES, 1 digit for the lift and 1 more (0: straight), 1 digit for the pace. So the least of
     * these numbers is also the first of several that are as quick.
     */
    private int quickest(int without) {
        int least = NO_FLIGHT_HOME;
        for (int pace = 1; pace <= MOST_PACE; pace++) {
            if (arrivesSafely(now.home, pace)) {
                least = Math.min(least, (trial.minute - now.glider.minute) * 100 + pace);
            }
        }
        for (int i = 0; i < now.liftCount; i++) {
            for (int pace = 1; pace <= MOST_PACE && i != without; pace++) {
                trial.copyFrom(now.glider);
                if (risesToLeave(now.lifts[i], pace, now.home, MOST_MINUTES)) {
                    least = Math.min(least, minutesHome(pace) * 100 + (i + 1) * 10 + pace);
                }
            }
        }
        return least;
    }

    private static int minutesForWorth(int found) {
        return found == NO_FLIGHT_HOME ? WORTH_OF_NONE : found / 100;
    }

    private boolean wouldBeAsSeen(Lift it) {
        trial.copyFrom(now.glider);
        for (int r = 0; r < now.seen.count; r++) {
            int before = trial.height;
            trial.circles(it, now.air, 1);
            if (trial.height - before != now.seen.numbers[r]) {
                return false;
            }
        }
        return true;
    }

    // ---- rows and fractions

    private int tellRow(Rows rows, int lift, int n, int least, int most) {
        if (lift == -1) {
            rows.count = 0;
            return 0;
        }
        if (!isLift(lift)) {
            return NONE;
        }
        return isWithin(n, least, most) ? rows.add(lift, n) : BAD;
    }

    private static long partOfFraction(int above, int below, int part) {
        if (below <= 0 || !isWithin(part, 0, 1)) {
            return NO;
        }
        int whole = part == 0 ? above : below;
        for (int d = below; d > 1; d--) {
            if (above % d == 0 && below % d == 0) {
                return whole / d;
            }
        }
        return whole;
    }

    // ---- acts: a kind without a body of its own shares the case of the kind above; as super is at
    // last LIFT, which has all three, and tells asks climbs and climbs asks turns, they all end.

    private void begins(int body) {
        if (bodiesRun < bodies.length) {
            bodies[bodiesRun] = body;
        }
        bodiesRun++;
    }

    private int turns(Lift it, int kind, int x) {
        switch (kind) {
            case WEAK:
            case WANDERING:
                begins(30);
                return turns(it, LIFT, x * 3);
            case CAPPED:
                begins(50);
                return -turns(it, STRONG, x);
            case TOLD:
                begins(71);
                return turns(it, LATE, x) ^ it.v;
            default:
                begins(10);
                return x + it.number;
        }
    }

    private int climbs(Lift it, int kind, int x) {
        switch (kind) {
            case STRONG:
                begins(20);
                return climbs(it, LIFT, x) ^ 6;
            case CAPPED:
                begins(51);
                return climbs(it, STRONG, x + 1);
            case TOLD:
                begins(70);
                return climbs(it, LATE, x) + turns(it, LATE, 2);
            default:
                begins(11);
                return turns(it, it.kind, x) - it.v;
        }
    }

    private int tells(Lift it, int kind, int x) {
        switch (kind) {
            case LATE:
            case TOLD:
                begins(40);
                return tells(it, LIFT, x) + climbs(it, it.kind, 1);
            case WANDERING:
                begins(60);
                return tells(it, WEAK, x - it.number);
            default:
                begins(12);
                return climbs(it, it.kind, x) * 2;
        }
    }

    /** One lift; a place for one is made once, and begins anew with each lift that comes there. */
    private static final class Lift {
        final int number;
        final int[] row = new int[4];
        int kind, v, mile, pull;
        // The newest answer of an AIR: it is the same for 10 MINUTES and 50 of HEIGHT.
        Air asked = null;
        int askedHeight, askedMinute, answered;

        Lift(int number) {
            this.number = number;
        }

        void begin(int newKind, int newV, int newMile, int newPull) {
            kind = newKind;
            v = newV;
            mile = newMile;
            pull = newPull;
            Arrays.fill(row, 0);
            asked = null;
        }

        void copyFrom(Lift other) {
            begin(other.kind, other.v, other.mile, other.pull);
            System.arraycopy(other.row, 0, row, 0, row.length);
        }

        int gain(Air air, int height, int minute) {
            int h = height / 50;
            int t = Math.min(minute / 10, 99);
            if (asked != air || askedHeight != h || askedMinute != t) {
                asked = air;
                askedHeight = h;
                askedMinute = t;
                answered = air.more(this, h, t);
            }
            return pull + answered;
        }

        int climb(Air air, int height, int minute) {
            int gain = gain(air, height, minute);
            switch (kind) {
                case STRONG: return gain + v / 2;
                case WEAK: return gain / 2;
                case LATE: return minute >= 100 ? -2 : gain;
                case CAPPED: return height > 40 * v ? 0 : gain + v / 2;
                case WANDERING: return minute % (v + 2) == 0 ? -1 : gain / 2;
                case TOLD: return (minute >= 100 ? -2 : gain) + row[minute & 3];
                default: return gain;
            }
        }
    }

    /** Where one is, how high, when; both the glider and each trial are one. */
    private static final class Glider {
        int mile = 0, height = 100, minute = 0;

        Glider() {
        }

        static int sinkOfMile(int pace) {
            return 5 + pace;
        }

        void copyFrom(Glider other) {
            mile = other.mile;
            height = other.height;
            minute = other.minute;
        }

        /** Whether HEIGHT is enough; if not, all stays. */
        boolean glides(int to, int pace) {
            int miles = Math.abs(to - mile);
            int sink = miles * sinkOfMile(pace);
            if (sink > height) {
                return false;
            }
            mile = to;
            height -= sink;
            minute += miles * (10 - pace);
            return true;
        }

        void circles(Lift lift, Air air, int minutes) {
            for (int n = 0; n < minutes; n++) {
                int ceiling = Math.max(air.base, height);
                height = Math.max(0, Math.min(ceiling, height + lift.climb(air, height, minute)));
                minute++;
            }
        }
    }

    /** Rows told by hand: of lifts and numbers (of SEEN numbers alone). */
    private static final class Rows {
        final int[] lifts;
        final int[] numbers;
        int count = 0;

        Rows(int most) {
            lifts = new int[most];
            numbers = new int[most];
        }

        int add(int lift, int number) {
            if (count >= numbers.length) {
                return FULL;
            }
            lifts[count] = lift;
            numbers[count] = number;
            count++;
            return count;
        }

        void copyFrom(Rows other) {
            count = Math.min(other.count, numbers.length);
            System.arraycopy(other.lifts, 0, lifts, 0, count);
            System.arraycopy(other.numbers, 0, numbers, 0, count);
        }
    }

    /** All that an image holds. */
    private static final class State {
        final Lift[] lifts = new Lift[MOST_LIFTS];
        final Glider glider = new Glider();
        final Rows flight = new Rows(4);
        final Rows seen = new Rows(5);
        final Rows book = new Rows(8);
        int liftCount = 0, in = NOT_SO, home = 60;
        Air air;

        State(Air first) {
            air = first;
            for (int i = 0; i < lifts.length; i++) {
                lifts[i] = new Lift(i);
            }
        }

        void copyFrom(State other) {
            liftCount = other.liftCount;
            for (int i = 0; i < liftCount; i++) {
                lifts[i].copyFrom(other.lifts[i]);
            }
            glider.copyFrom(other.glider);
            flight.copyFrom(other.flight);
            seen.copyFrom(other.seen);
            book.copyFrom(other.book);
            in = other.in;
            home = other.home;
            air = other.air;
        }
    }

    /**
     * An AIR as steps that are done one behind the other: a test puts a truth on a pile, the others
     * take theirs from it. A step is 1000 times its sort, 100 times a test's relation, its number.
     */
    private static final class Air {
        static final int L = 0, K = 1, H = 2, T = 3, V = 4, M = 5, NOT = 6, AND = 7, OR = 8, UP = 9, DOWN = 10;
        final int[] steps = new int[MOST_BYTES];
        int stepCount = 0, base = MOST_HEIGHT, safe = SAFE_WITHOUT;

        Air() {
        }

        void begin() {
            stepCount = 0;
            base = MOST_HEIGHT;
            safe = SAFE_WITHOUT;
        }

        void addStep(int sort, int relation, int n) {
            if (stepCount < steps.length) {
                steps[stepCount] = sort * 1000 + relation * 100 + n;
                stepCount++;
            }
        }

        /** What comes to PULL; the truths pile up in the bits of an int, for they are some fifteen at most. */
        int more(Lift lift, int h, int t) {
            int pile = 0;
            int sum = 0;
            for (int s = 0; s < stepCount; s++) {
                int sort = steps[s] / 1000;
                int top = pile & 1;
                switch (sort) {
                    case NOT: pile ^= 1; break;
                    case AND: pile = pile >> 1 & (top | ~1); break;
                    case OR: pile = pile >> 1 | top; break;
                    case UP: sum += top * (steps[s] % 100); pile >>= 1; break;
                    case DOWN: sum -= top * (steps[s] % 100); pile >>= 1; break;
                    default: pile = pile << 1 | tested(steps[s], valueOf(sort, lift, h, t));
                }
            }
            return sum;
        }

        private static int valueOf(int sort, Lift lift, int h, int t) {
            switch (sort) {
                case L: return lift.number;
                case K: return lift.kind;
                case H: return h;
                case T: return t;
                case V: return lift.v;
                default: return lift.mile / 10;
            }
        }

        private static int tested(int step, int value) {
            int n = step % 100;
            switch (step / 100 % 10) {
                case 0: return value < n ? 1 : 0;
                case 1: return value == n ? 1 : 0;
                default: return value > n ? 1 : 0;
            }
        }
    }

    /**
     * THE TEXT, and how an AIR is read from it. What reads a part answers whether it stands there;
     * if not, the place at which it stopped is the fault, for no part is ever tried twice.
     */
    private static final class AirReader {
        private static final String LETTERS = "lkhtvm", RELATIONS = "<=>";
        private static final int MOST_CLAUSES = 10, MOST_WITHIN = 4;
        final byte[] bytes = new byte[MOST_BYTES];
        int length = 0, at = 0;
        private Air air;

        AirReader(Air first) {
            air = first;
        }

        boolean parse(Air into) {
            into.begin();
            air = into;
            at = 0;
            if (!clause()) {
                return false;
            }
            for (int n = 1; n < MOST_CLAUSES && takes(';'); n++) {
                if (!clause()) {
                    return false;
                }
            }
            return at == length;
        }

        private boolean clause() {
            char first = peeked();
            if (!word(wordWith(first))) {
                return false;
            }
            int n = number();
            if (n < 0) {
                return false;
            }
            switch (first) {
                case 'b':
                    air.base = Math.min(10 * n, MOST_HEIGHT);
                    return true;
                case 's':
                    air.safe = 10 * n;
                    return true;
                default:
                    if (!takes(' ') || !expression(0)) {
                        return false;
                    }
                    air.addStep(first == 'u' ? Air.UP : Air.DOWN, 0, n);
                    return true;
            }
        }

        private static String wordWith(char first) {
            switch (first) {
                case 'u': return "up ";
                case 'd': return "down ";
                case 'b': return "base ";
                default: return "safe ";
            }
        }

        /** An E within so many others: the truths of what stands between | wait till the next one is read. */
        private boolean expression(int within) {
            boolean waits = false;
            if (!factor(within)) {
                return false;
            }
            for (int n = 0; n < MOST_BYTES && (peeked() == '&' || peeked() == '|'); n++) {
                boolean and = takes('&');
                if (!and) {
                    at++;
                    if (waits) {
                        air.addStep(Air.OR, 0, 0);
                    }
                    waits = true;
                }
                if (!factor(within)) {
                    return false;
                }
                if (and) {
                    air.addStep(Air.AND, 0, 0);
                }
            }
            if (waits) {
                air.addStep(Air.OR, 0, 0);
            }
            return true;
        }

        private boolean factor(int within) {
            if (within < MOST_WITHIN && takes('!')) {
                if (!factor(within + 1)) {
                    return false;
                }
                air.addStep(Air.NOT, 0, 0);
                return true;
            }
            if (within < MOST_WITHIN && takes('(')) {
                return expression(within + 1) && takes(')');
            }
            return test();
        }

        private boolean test() {
            int letter = LETTERS.indexOf(peeked());
            if (letter < 0) {
                return false;
            }
            at++;
            int relation = RELATIONS.indexOf(peeked());
            if (relation < 0) {
                return false;
            }
            at++;
            int n = number();
            air.addStep(letter, relation, Math.max(n, 0));
            return n >= 0;
        }

        /** One or two digits; -1: there is none. */
        private int number() {
            int n = -1;
            for (int digits = 0; digits < 2 && peeked() >= '0' && peeked() <= '9'; digits++) {
                n = Math.max(n, 0) * 10 + peeked() - '0';
                at++;
            }
            return n;
        }

        private boolean word(String word) {
            for (int i = 0; i < word.length(); i++) {
                if (!takes(word.charAt(i))) {
                    return false;
                }
            }
            return true;
        }

        private boolean takes(char sign) {
            if (peeked() != sign) {
                return false;
            }
            at++;
            return true;
        }

        /** The byte that comes next; at the end a sign that no text has. */
        private char peeked() {
            return at >= 0 && at < length && at < bytes.length ? (char) bytes[at] : (char) 128;
        }
    }

    /** A row of one sort, or nothing; its items are kept as longs that are cut to the sort. */
    private static final class Tape {
        static final int NO_SORT = -1;
        final long[] items = new long[MOST_ITEMS];
        int sort = NO_SORT, size = 0;

        Tape() {
        }

        boolean holds() {
            return sort != NO_SORT;
        }

        void begin(int newSort, int newSize) {
            sort = newSort;
            size = newSize;
            Arrays.fill(items, 0L);
        }

        long cut(long v) {
            switch (sort) {
                case BYTES: return (byte) v;
                case SHORTS: return (short) v;
                case INTS: return (int) v;
                case BOOLEANS: return v != 0L ? 1L : 0L;
                default: return v;
            }
        }
    }
}
