import java.lang.reflect.Array;
import java.math.BigInteger;
import java.util.ArrayList;
import java.util.List;
import java.util.regex.Matcher;
import java.util.regex.Pattern;

/**
 * The document once more, written without a thought for speed or room and in other ways than the
 * program (regular expressions for the faults, real classes for the acts, real arrays for the tapes),
 * for ModelTest to compare with.
 */
final class Model {
    static final long NO = Long.MIN_VALUE;

    // ---- lifts as classes

    class Lift {
        int number, kind, v, mile, pull;
        int[] row = new int[4];

        int gain(int height, int minute) {
            int gain = pull;
            for (String clause : clauses()) {
                String[] parts = clause.split(" ");
                if (parts.length == 3 && truth(parts[2], this, height, minute)) {
                    gain += (parts[0].equals("up") ? 1 : -1) * Integer.parseInt(parts[1]);
                }
            }
            return gain;
        }

        int climb(int height, int minute) {
            return gain(height, minute);
        }

        int turns(int x) {
            ran.add(10);
            return x + number;
        }

        int climbs(int x) {
            ran.add(11);
            return turns(x) - v;
        }

        int tells(int x) {
            ran.add(12);
            return climbs(x) * 2;
        }
    }

    class Strong extends Lift {
        @Override int climb(int height, int minute) {
            return gain(height, minute) + v / 2;
        }

        @Override int climbs(int x) {
            ran.add(20);
            return super.climbs(x) ^ 6;
        }
    }

    class Weak extends Lift {
        @Override int climb(int height, int minute) {
            int gain = gain(height, minute);
            return gain < 0 ? -(-gain / 2) : gain / 2;
        }

        @Override int turns(int x) {
            ran.add(30);
            return super.turns(x * 3);
        }
    }

    class Late extends Lift {
        @Override int climb(int height, int minute) {
            return minute < 100 ? gain(height, minute) : -2;
        }

        @Override int tells(int x) {
            ran.add(40);
            int told = super.tells(x);
            return told + climbs(1);
        }
    }

    class Capped extends Strong {
        @Override int climb(int height, int minute) {
            return height > v * 40 ? 0 : super.climb(height, minute);
        }

        @Override int turns(int x) {
            ran.add(50);
            return -super.turns(x);
        }

        @Override int climbs(int x) {
            ran.add(51);
            return super.climbs(x + 1);
        }
    }

    class Wandering extends Weak {
        @Override int climb(int height, int minute) {
            return minute % (v + 2) == 0 ? -1 : super.climb(height, minute);
        }

        @Override int tells(int x) {
            ran.add(60);
            return super.tells(x - number);
        }
    }

    class Told extends Late {
        @Override int climb(int height, int minute) {
            return super.climb(height, minute) + row[minute % 4];
        }

        @Override int climbs(int x) {
            ran.add(70);
            int climbed = super.climbs(x);
            return climbed + super.turns(2);
        }

        @Override int turns(int x) {
            ran.add(71);
            return super.turns(x) ^ v;
        }
    }

    private static Class<?> classOf(int kind) {
        Class<?>[] all = {Lift.class, Strong.class, Weak.class, Late.class, Capped.class, Wandering.class, Told.class};
        return all[kind];
    }

    private Lift newLift(int kind) {
        switch (kind) {
            case 1: return new Strong();
            case 2: return new Weak();
            case 3: return new Late();
            case 4: return new Capped();
            case 5: return new Wandering();
            case 6: return new Told();
            default: return new Lift();
        }
    }

    private Lift copy(Lift other) {
        Lift it = newLift(other.kind);
        it.number = other.number;
        it.kind = other.kind;
        it.v = other.v;
        it.mile = other.mile;
        it.pull = other.pull;
        it.row = other.row.clone();
        return it;
    }

    // ---- airs

    private static final Pattern AIR = Pattern.compile(airPattern());

    private static String airPattern() {
        String number = "[0-9]{1,2}";
        String factor = "[lkhtvm][<=>]" + number;
        for (int within = 4; within > 0; within--) {
            factor = "(?:" + factor + "|!" + factor + "|\\(" + sum(factor) + "\\))";
        }
        String clause = "(?:(?:up|down) " + number + " " + sum(factor) + "|(?:base|safe) " + number + ")";
        return clause + "(?:;" + clause + "){0,9}";
    }

    private static String sum(String factor) {
        return factor + "(?:[&|]" + factor + ")*";
    }

    /** -1: it is an AIR. */
    static int fault(String text) {
        Matcher whole = AIR.matcher(text);
        if (whole.matches()) {
            return -1;
        }
        for (int n = 1; n <= text.length(); n++) {
            Matcher start = AIR.matcher(text.substring(0, n));
            if (!start.matches() && !start.hitEnd()) {
                return n - 1;
            }
        }
        return text.length();
    }

    private String[] clauses() {
        return holding < 0 ? new String[0] : airs.get(holding).split(";");
    }

    /** Splits at the last sign that binds least, outside of all brackets. */
    private static boolean truth(String e, Lift lift, int height, int minute) {
        for (char sign : new char[] {'|', '&'}) {
            int open = 0;
            for (int i = e.length() - 1; i >= 0; i--) {
                char c = e.charAt(i);
                open += c == ')' ? 1 : c == '(' ? -1 : 0;
                if (open == 0 && c == sign) {
                    boolean left = truth(e.substring(0, i), lift, height, minute);
                    boolean right = truth(e.substring(i + 1), lift, height, minute);
                    return sign == '|' ? left || right : left && right;
                }
            }
        }
        if (e.charAt(0) == '!') {
            return !truth(e.substring(1), lift, height, minute);
        }
        if (e.charAt(0) == '(') {
            return truth(e.substring(1, e.length() - 1), lift, height, minute);
        }
        int value;
        switch (e.charAt(0)) {
            case 'l': value = lift.number; break;
            case 'k': value = lift.kind; break;
            case 'h': value = height / 50; break;
            case 't': value = minute / 10 > 99 ? 99 : minute / 10; break;
            case 'v': value = lift.v; break;
            default: value = lift.mile / 10;
        }
        int n = Integer.parseInt(e.substring(2));
        return e.charAt(1) == '<' ? value < n : e.charAt(1) == '>' ? value > n : value == n;
    }

    private int lastOf(String word, int otherwise) {
        int n = otherwise;
        for (String clause : clauses()) {
            if (clause.startsWith(word + " ")) {
                n = Integer.parseInt(clause.substring(word.length() + 1));
            }
        }
        return 10 * n;
    }

    private int base() {
        return Math.min(400, lastOf("base", 40));
    }

    private int safe() {
        return lastOf("safe", 8);
    }

    // ---- the state

    private List<Lift> lifts = new ArrayList<>();
    private final List<String> airs = new ArrayList<>();
    private int holding = -1;
    private final StringBuilder text = new StringBuilder();
    private int mile = 0, height = 100, minute = 0, in = -5, home = 60;
    private List<int[]> flight = new ArrayList<>(), book = new ArrayList<>();
    private List<Integer> seen = new ArrayList<>();
    private Model kept = null;
    private List<Integer> ran = new ArrayList<>();
    private final Object[] tapes = new Object[6];

    private void takeFrom(Model other) {
        lifts = new ArrayList<>();
        for (Lift it : other.lifts) {
            lifts.add(copy(it));
        }
        holding = other.holding;
        mile = other.mile;
        height = other.height;
        minute = other.minute;
        in = other.in;
        home = other.home;
        flight = new ArrayList<>(other.flight);
        book = new ArrayList<>(other.book);
        seen = new ArrayList<>(other.seen);
    }

    // ---- flying on: a flight is {mile, height, minute}, null when it is out

    private int[] here() {
        return new int[] {mile, height, minute};
    }

    private static int[] glided(int[] from, int to, int pace) {
        int[] at = from.clone();
        while (at[0] != to) {
            at[0] += at[0] < to ? 1 : -1;
            at[1] -= 5 + pace;
            at[2] += 10 - pace;
            if (at[1] < 0) {
                return null;
            }
        }
        return at;
    }

    private int[] circled(int[] from, Lift lift, int minutes) {
        int[] at = from.clone();
        for (int n = 0; n < minutes; n++) {
            int climb = lift.climb(at[1], at[2]);
            int high = at[1] + climb;
            if (climb > 0 && high > base()) {
                high = Math.max(base(), at[1]);
            }
            at[1] = Math.max(high, 0);
            at[2]++;
        }
        return at;
    }

    private boolean arrivesWell(int[] from, int to, int pace) {
        int[] there = glided(from, to, pace);
        return there != null && there[1] >= safe();
    }

    /** IN a lift just so long that it is enough for a MILE; null if it is not by then. */
    private int[] risen(int[] from, Lift lift, int to, int pace, int most) {
        int[] at = from;
        for (int n = 0; n < most && !arrivesWell(at, to, pace); n++) {
            at = circled(at, lift, 1);
        }
        return arrivesWell(at, to, pace) ? at : null;
    }

    private int[] leaving(Lift lift, int pace) {
        int[] there = glided(here(), lift.mile, pace);
        return there == null ? null : risen(there, lift, home, pace, 60);
    }

    /** {which, pace, minutes} */
    private int[] bestOf(int without) {
        int[] found = {-5, -5, -5};
        for (int which = -1; which < lifts.size(); which++) {
            for (int pace = 1; pace <= 9; pace++) {
                int minutes = which < 0 ? straight(pace) : by(which, pace, 0);
                if (which != without && minutes != -5 && (found[2] == -5 || minutes < found[2])) {
                    found = new int[] {which, pace, minutes};
                }
            }
        }
        return found;
    }

    private static boolean out(int n, int least, int most) {
        return n < least || n > most;
    }

    private boolean noLift(int lift) {
        return out(lift, 0, lifts.size() - 1);
    }

    private static boolean noTape(int tape) {
        return out(tape, 0, 5);
    }

    // ---- the face

    public int lift(int kind, int v, int mile, int pull) {
        if (out(kind, 0, 6)) return -1;
        if (out(v, 0, 9) || out(mile, 0, 99) || out(pull, 0, 20)) return -2;
        if (lifts.size() == 6) return -4;
        Lift it = newLift(kind);
        it.number = lifts.size();
        it.kind = kind;
        it.v = v;
        it.mile = mile;
        it.pull = pull;
        lifts.add(it);
        return it.number;
    }

    public int of(int lift, int what) {
        if (noLift(lift) || out(what, 0, 5)) return -1001;
        Lift it = lifts.get(lift);
        return new int[] {it.kind, it.v, it.mile, it.pull, it.gain(height, minute), it.climb(height, minute)}[what];
    }

    public int pull(int lift, int n) {
        if (noLift(lift)) return -1;
        if (out(n, 0, 20)) return -2;
        int was = lifts.get(lift).pull;
        lifts.get(lift).pull = n;
        return was;
    }

    public int row(int lift, int part, int n) {
        if (noLift(lift) || out(part, 0, 3)) return -1;
        if (out(n, 0, 9)) return -2;
        if (lifts.get(lift).kind != 6) return -3;
        int was = lifts.get(lift).row[part];
        lifts.get(lift).row[part] = n;
        return was;
    }

    public int feed(int sign) {
        if (out(sign, 0, 127)) return -2;
        if (text.length() == 100) return -4;
        text.append((char) sign);
        return text.length();
    }

    public int air() {
        if (airs.size() == 6) return -4;
        String all = text.toString();
        text.setLength(0);
        int fault = fault(all);
        if (fault >= 0) return -10 - fault;
        airs.add(all);
        holding = airs.size() - 1;
        return holding;
    }

    public int home(int mile) {
        if (out(mile, 0, 99)) return -2;
        int was = home;
        home = mile;
        return was;
    }

    public int height(int n) {
        if (out(n, 0, 400)) return -2;
        int was = height;
        height = n;
        return was;
    }

    public int told(int what) {
        if (out(what, 0, 6)) return -1;
        return new int[] {minute, mile, height, in, home, base(), safe()}[what];
    }

    public int enter(int lift) {
        if (noLift(lift)) return -1001;
        if (lifts.get(lift).mile != mile) return -1002;
        in = lift;
        return of(lift, 5);
    }

    private void settle(int[] at) {
        mile = at[0];
        height = at[1];
        minute = at[2];
    }

    public int turn(int n) {
        if (out(n, 0, 60)) return -2;
        if (in == -5 || minute + n > 9999) return -3;
        settle(circled(here(), lifts.get(in), n));
        return height;
    }

    public int glide(int mile, int pace) {
        if (out(mile, 0, 99) || out(pace, 1, 9)) return -2;
        int[] there = glided(here(), mile, pace);
        if (there == null || there[2] > 9999) return -3;
        settle(there);
        in = -5;
        return height;
    }

    public int up(int lift, int n) {
        if (noLift(lift)) return -1;
        if (out(n, 0, 60)) return -2;
        return circled(here(), lifts.get(lift), n)[1];
    }

    public int top(int lift, int what) {
        if (noLift(lift) || out(what, 0, 1)) return -1;
        int when = 0;
        for (int n = 1; n <= 60; n++) {
            if (up(lift, n) > up(lift, when)) {
                when = n;
            }
        }
        return what == 0 ? up(lift, when) : when;
    }

    public int arrives(int mile, int pace) {
        if (out(mile, 0, 99) || out(pace, 1, 9)) return -2;
        int[] there = glided(here(), mile, pace);
        return there == null ? -5 : there[1];
    }

    public int outed(int mile, int pace) {
        if (out(mile, 0, 99) || out(pace, 1, 9)) return -2;
        int miles = Math.abs(mile - this.mile);
        while (miles * (5 + pace) > height) {
            miles--;
        }
        return miles;
    }

    public int reach(int pace) {
        if (out(pace, 1, 9)) return -2;
        int bits = 0;
        for (Lift it : lifts) {
            bits += arrivesWell(here(), it.mile, pace) ? 1 << it.number : 0;
        }
        return bits;
    }

    public int next(int pace) {
        if (out(pace, 1, 9)) return -2;
        int which = -5;
        int greatest = Integer.MIN_VALUE;
        for (Lift it : lifts) {
            int[] there = glided(here(), it.mile, pace);
            if (there != null && there[1] >= safe() && it.climb(there[1], there[2]) > greatest) {
                which = it.number;
                greatest = it.climb(there[1], there[2]);
            }
        }
        return which;
    }

    public int lowest(int lift, int pace) {
        if (noLift(lift)) return -1;
        if (out(pace, 1, 9)) return -2;
        for (int h = 0; h <= 400; h++) {
            if (arrivesWell(new int[] {mile, h, minute}, lifts.get(lift).mile, pace)) {
                return h;
            }
        }
        return -5;
    }

    public int by(int lift, int pace, int what) {
        if (noLift(lift) || out(what, 0, 1)) return -1;
        if (out(pace, 1, 9)) return -2;
        int[] leaves = leaving(lifts.get(lift), pace);
        if (leaves == null) return -5;
        return what == 1 ? leaves[1] : glided(leaves, home, pace)[2] - minute;
    }

    public int straight(int pace) {
        if (out(pace, 1, 9)) return -2;
        return arrivesWell(here(), home, pace) ? glided(here(), home, pace)[2] - minute : -5;
    }

    public int best(int what) {
        return out(what, 0, 2) ? -1001 : bestOf(-2)[what];
    }

    public int two(int pace, int what) {
        if (out(what, 0, 1)) return -1;
        if (out(pace, 1, 9)) return -2;
        int[] found = {-5, -5};
        for (Lift first : lifts) {
            int[] there = glided(here(), first.mile, pace);
            for (Lift second : lifts) {
                if (there == null || first == second) continue;
                int[] at = risen(there, first, second.mile, pace, 40);
                if (at == null) continue;
                at = risen(glided(at, second.mile, pace), second, home, pace, 40);
                if (at == null) continue;
                int minutes = glided(at, home, pace)[2] - minute;
                if (found[1] == -5 || minutes < found[1]) {
                    found = new int[] {10 * first.number + second.number, minutes};
                }
            }
        }
        return found[what];
    }

    public int worth(int lift) {
        if (noLift(lift)) return -1;
        int with = bestOf(-2)[2];
        int without = bestOf(lift)[2];
        return (without == -5 ? 999 : without) - (with == -5 ? 999 : with);
    }

    public int leg(int lift, int n) {
        if (lift == -1) {
            flight.clear();
            return 0;
        }
        if (noLift(lift)) return -1;
        if (out(n, 0, 60)) return -2;
        if (flight.size() == 4) return -4;
        flight.add(new int[] {lift, n});
        return flight.size();
    }

    public int flown(int pace, int what) {
        if (out(what, 0, 1)) return -1;
        if (out(pace, 1, 9)) return -2;
        int[] at = here();
        for (int[] row : flight) {
            at = glided(at, lifts.get(row[0]).mile, pace);
            if (at == null) return -5;
            at = circled(at, lifts.get(row[0]), row[1]);
        }
        at = glided(at, home, pace);
        return at == null ? -5 : what == 0 ? at[1] : at[2] - minute;
    }

    public int see(int n) {
        if (n == -100) {
            seen.clear();
            return 0;
        }
        if (out(n, -99, 99)) return -2;
        if (seen.size() == 5) return -4;
        seen.add(n);
        return seen.size();
    }

    public int who() {
        int bits = 0;
        for (Lift it : lifts) {
            boolean same = true;
            for (int n = 0; n < seen.size(); n++) {
                same &= up(it.number, n + 1) - up(it.number, n) == seen.get(n);
            }
            bits += same ? 1 << it.number : 0;
        }
        return bits;
    }

    private static long part(int above, int below, int part) {
        BigInteger a = BigInteger.valueOf(above);
        BigInteger b = BigInteger.valueOf(below);
        return (part == 0 ? a : b).divide(a.gcd(b)).longValue();
    }

    public long odds(int h, int n, int part) {
        if (lifts.isEmpty() || out(h, 0, 400) || out(n, 0, 60) || out(part, 0, 1)) return NO;
        int high = 0;
        for (Lift it : lifts) {
            high += up(it.number, n) >= h ? 1 : 0;
        }
        return part(high, lifts.size(), part);
    }

    public long mean(int n, int part) {
        if (lifts.isEmpty() || out(n, 0, 60) || out(part, 0, 1)) return NO;
        int sum = 0;
        for (Lift it : lifts) {
            sum += up(it.number, n);
        }
        return part(sum, lifts.size(), part);
    }

    public int book(int lift, int climb) {
        if (lift == -1) {
            book.clear();
            return 0;
        }
        if (noLift(lift)) return -1;
        if (out(climb, -99, 99)) return -2;
        if (book.size() == 8) return -4;
        book.add(new int[] {lift, climb});
        return book.size();
    }

    public int looked() {
        for (int[] row : book) {
            if (of(row[0], 5) != row[1]) return book.indexOf(row);
        }
        return -5;
    }

    public int judge(int tape, int i) {
        if (noTape(tape)) return -1;
        if (tapes[tape] != null && !(tapes[tape] instanceof byte[])) return -12;
        int seenSoFar = 0;
        try {
            for (Lift it : lifts) {
                if (((byte[]) tapes[tape])[i + seenSoFar] != it.mile) return it.number;
                seenSoFar++;
            }
            return -5;
        } catch (RuntimeException e) {
            return 100 + seenSoFar;
        }
    }

    public int image() {
        kept = new Model();
        kept.takeFrom(this);
        return lifts.size();
    }

    public int undo() {
        if (kept == null) return -3;
        takeFrom(kept);
        return lifts.size();
    }

    public int act(int lift, int act, int x) {
        ran = new ArrayList<>();
        if (noLift(lift) || out(act, 0, 2)) return 0;
        Lift it = lifts.get(lift);
        return act == 0 ? it.turns(x) : act == 1 ? it.climbs(x) : it.tells(x);
    }

    public int trace(int i) {
        return out(i, 0, Math.min(20, ran.size()) - 1) ? -1 : ran.get(i);
    }

    public int taken(int lift, int k) {
        if (out(k, 0, 6)) return -2;
        if (noLift(lift)) return -11;
        return classOf(k).isInstance(lifts.get(lift)) ? lifts.get(lift).kind : -12;
    }

    public int count(int what) {
        if (out(what, 0, 6)) return -2;
        return new int[] {lifts.size(), airs.size(), flight.size(), seen.size(), book.size(), text.length(),
            ran.size()}[what];
    }

    public int tape(int tape, int sort, int n) {
        if (noTape(tape)) return -1;
        if (out(sort, -1, 4) || sort != -1 && n > 60) return -2;
        if (sort != -1 && n < 0) return -14;
        Class<?>[] sorts = {byte.class, short.class, int.class, long.class, boolean.class};
        tapes[tape] = sort == -1 ? null : Array.newInstance(sorts[sort], n);
        return 1;
    }

    public int item(int tape, int i, long v) {
        if (noTape(tape)) return -1;
        Object it = tapes[tape];
        if (it == null) return -11;
        try {
            if (it instanceof byte[]) ((byte[]) it)[i] = (byte) v;
            else if (it instanceof short[]) ((short[]) it)[i] = (short) v;
            else if (it instanceof int[]) ((int[]) it)[i] = (int) v;
            else if (it instanceof long[]) ((long[]) it)[i] = v;
            else ((boolean[]) it)[i] = v != 0;
            return 1;
        } catch (ArrayIndexOutOfBoundsException e) {
            return -13;
        }
    }

    public long read(int tape, int i) {
        if (noTape(tape) || tapes[tape] == null || out(i, 0, Array.getLength(tapes[tape]) - 1)) return NO;
        Object item = Array.get(tapes[tape], i);
        return item instanceof Boolean ? ((Boolean) item ? 1 : 0) : ((Number) item).longValue();
    }

    public int shift(int tape, int i, int other, int j, int n) {
        if (noTape(tape) || noTape(other)) return -1;
        try {
            System.arraycopy(tapes[tape], i, tapes[other], j, n);
            return n;
        } catch (NullPointerException e) {
            return -11;
        } catch (ArrayStoreException e) {
            return -12;
        } catch (IndexOutOfBoundsException e) {
            return -13;
        }
    }
}
