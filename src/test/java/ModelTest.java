import java.lang.reflect.Method;
import java.lang.reflect.Modifier;
import java.util.ArrayList;
import java.util.Comparator;
import java.util.List;
import java.util.Random;

/** Runs of calls by a seeded row of numbers, each answered by the program and by the Model alike. */
public final class ModelTest {
    private static final int RUNS = 120, FAULTS = 5000, CALLS = 512;
    private static final String[] PIECES = {
        "up ", "down ", "base ", "safe ", "1", "2", "7", "12", "35", " ", "l", "k", "h", "t", "v", "m", "<", "=", ">",
        "(", ")", "!", "&", "|", ";", "x", "l<3", "k=1", "h>2", "t<4", "v>3", "m=1"};

    private final Random random;
    private final SomebodysLift program = new SomebodysLift();
    private final Model model = new Model();
    private final List<String> done = new ArrayList<>();
    private static final List<Method> METHODS = methods();

    private ModelTest(int seed) {
        random = new Random(seed);
    }

    private static List<Method> methods() {
        List<Method> all = new ArrayList<>();
        for (Method m : SomebodysLift.class.getDeclaredMethods()) {
            if (Modifier.isPublic(m.getModifiers())) {
                all.add(m);
            }
        }
        all.sort(Comparator.comparing(Method::getName));
        return all;
    }

    private int pick(int least, int most) {
        return least + random.nextInt(most - least + 1);
    }

    /** Mostly numbers that fit, now and then ones at the edge or far off. */
    private int argument(int least, int most) {
        switch (pick(0, 39)) {
            case 0: return least - 1;
            case 1: return most + 1;
            case 2: return least;
            case 3: return most;
            case 4: return pick(0, 3) == 0 ? (random.nextBoolean() ? Integer.MAX_VALUE : Integer.MIN_VALUE) : least;
            default: return pick(least, most);
        }
    }

    private boolean call(String name, Object... arguments) throws Exception {
        for (Method m : METHODS) {
            if (m.getName().equals(name)) {
                Object got = m.invoke(program, arguments);
                Object due = Model.class.getMethod(name, m.getParameterTypes()).invoke(model, arguments);
                done.add(name + java.util.Arrays.toString(arguments) + " " + got);
                if (!got.equals(due)) {
                    System.out.println("due is " + due + " behind " + done);
                    return false;
                }
                return true;
            }
        }
        System.out.println("no method " + name);
        return false;
    }

    private String test() {
        String letter = "lkhtvm".substring(pick(0, 5)).substring(0, 1);
        String relation = "<=>".substring(pick(0, 2)).substring(0, 1);
        return letter + relation + (pick(0, 3) == 0 ? pick(0, 99) : pick(0, 7));
    }

    private String expression(int depth) {
        StringBuilder e = new StringBuilder();
        for (int n = pick(0, 3) == 0 ? pick(1, 2) : 0; n >= 0; n--) {
            switch (depth > 4 ? 0 : pick(0, 4)) {
                case 1: e.append("(").append(expression(depth + 1)).append(")"); break;
                case 2: e.append("!").append(test()); break;
                case 3: e.append("!(").append(expression(depth + 2)).append(")"); break;
                default: e.append(test());
            }
            e.append(n > 0 ? (random.nextBoolean() ? "&" : "|") : "");
        }
        return e.toString();
    }

    private String airText() {
        StringBuilder all = new StringBuilder();
        for (int n = pick(0, 3) == 0 ? pick(1, 10) : pick(1, 3); n > 0; n--) {
            switch (pick(0, 5)) {
                case 0: all.append("base ").append(pick(0, 50)); break;
                case 1: all.append("safe ").append(pick(0, 12)); break;
                case 2: all.append("down ").append(pick(0, 12)).append(" ").append(expression(0)); break;
                default: all.append("up ").append(pick(0, 15)).append(" ").append(expression(0));
            }
            all.append(n > 1 ? ";" : "");
        }
        for (int n = pick(0, 9) < 4 ? pick(1, 2) : 0; n > 0; n--) {
            int at = pick(0, all.length());
            if (random.nextBoolean()) {
                all.insert(at, PIECES[pick(0, PIECES.length - 1)]);
            } else {
                all.delete(at, Math.min(all.length(), at + pick(1, 3)));
            }
        }
        return all.toString();
    }

    private boolean feedAll(String text) throws Exception {
        for (int i = 0; i < text.length(); i++) {
            if (!call("feed", (int) text.charAt(i))) {
                return false;
            }
        }
        return call("air");
    }

    private boolean anyCall() throws Exception {
        int lift = argument(0, 5);
        int mile = argument(0, 99);
        int pace = pick(0, 3) == 0 ? argument(1, 9) : pick(1, 4);
        int tape = argument(0, 5);
        switch (pick(0, 52)) {
            case 0: return call("lift", argument(0, 6), argument(0, 9), random.nextBoolean() ? mile : pick(0, 30),
                argument(0, 20));
            case 1: case 2: return call("of", lift, argument(0, 5));
            case 3: return call("pull", lift, argument(0, 20));
            case 4: case 5: return call("row", lift, argument(0, 3), argument(0, 9));
            case 6: return call("feed", argument(0, 127));
            case 7: return pick(0, 3) != 0 || call("air");
            case 8: return call("home", mile);
            case 9: return call("height", argument(0, 400));
            case 10: return call("height", argument(300, 400));
            case 11: return call("told", argument(0, 6));
            case 12: case 13: return call("enter", lift);
            case 14: case 15: return call("turn", argument(0, 60));
            case 16: return call("glide", mile, pace);
            case 17: case 18: return call("up", lift, argument(0, 60));
            case 19: return call("top", lift, argument(0, 1));
            case 20: return call("arrives", mile, pace);
            case 21: return call("outed", mile, pace);
            case 22: return call("reach", pace);
            case 23: return call("next", pace);
            case 24: return call("lowest", lift, pace);
            case 25: case 26: return call("by", lift, pace, argument(0, 1));
            case 27: return call("straight", pace);
            case 28: return call("best", argument(0, 2));
            case 29: case 30: return call("two", pace, argument(0, 1));
            case 31: return call("worth", lift);
            case 32: return call("leg", pick(0, 9) == 0 ? -1 : lift, argument(0, 60));
            case 33: return call("flown", pace, argument(0, 1));
            case 34: return call("see", argument(-99, 99));
            case 35: return seeAsIs(lift);
            case 36: return call("who");
            case 37: return call("odds", argument(0, 400), argument(0, 60), argument(0, 1));
            case 38: return call("mean", argument(0, 60), argument(0, 1));
            case 39: return call("book", pick(0, 9) == 0 ? -1 : lift, argument(-99, 99));
            case 40: return call("book", lift, model.of(lift, 5));
            case 41: return call("looked");
            case 42: return call("judge", tape, argument(0, 20));
            case 43: return tellMiles(tape);
            case 44: return pick(0, 3) != 0 ? call("count", argument(0, 6)) : call("image");
            case 45: return pick(0, 3) != 0 ? call("count", argument(0, 6)) : call("undo");
            case 46: return act(lift);
            case 47: return call("taken", lift, argument(0, 6));
            case 48: return call("tape", tape, argument(-1, 4), argument(0, 60));
            case 49: return call("item", tape, argument(0, 59), random.nextBoolean() ? random.nextLong() : 3L);
            case 50: return call("read", tape, argument(0, 59));
            case 51: return call("shift", tape, argument(0, 40), argument(0, 5), argument(0, 40), argument(0, 30));
            default: return goTo(lift, pace);
        }
    }

    private boolean seeAsIs(int lift) throws Exception {
        boolean same = call("see", -100);
        for (int n = 0; n < 3 && model.up(lift, 0) >= 0; n++) {
            same = same && call("see", model.up(lift, n + 1) - model.up(lift, n));
        }
        return same && call("who");
    }

    private boolean tellMiles(int tape) throws Exception {
        int from = pick(0, 3);
        boolean same = call("tape", tape, 0, from + argument(0, 7));
        for (int i = 0; i < model.count(0); i++) {
            same = same && call("item", tape, from + i, (long) model.of(i, 2) + (pick(0, 19) == 0 ? 256 : 0));
        }
        return same && call("judge", tape, from) && call("judge", tape, argument(0, 6));
    }

    private boolean act(int lift) throws Exception {
        boolean same = call("act", lift, argument(0, 2), random.nextBoolean() ? random.nextInt() : pick(-9, 9));
        for (int i = -1; i <= model.count(6); i++) {
            same = same && call("trace", i);
        }
        return same && call("count", 6);
    }

    private boolean goTo(int lift, int pace) throws Exception {
        int mile = model.of(lift, 2);
        return mile < 0 || call("height", 400) && call("glide", mile, pace) && call("enter", lift);
    }

    private boolean runsAlike() throws Exception {
        for (int n = pick(0, 6); n > 0; n--) {
            if (!call("lift", pick(0, 6), pick(0, 9), pick(0, 60), pick(0, 20))) {
                return false;
            }
        }
        while (done.size() < CALLS) {
            boolean same = pick(0, 24) == 0 ? feedAll(airText()) : anyCall();
            if (!same) {
                return false;
            }
        }
        return true;
    }

    private static boolean faultsAlike() throws Exception {
        for (int seed = 0; seed < FAULTS; seed++) {
            ModelTest it = new ModelTest(seed);
            if (!it.feedAll(it.airText())) {
                return false;
            }
        }
        return true;
    }

    public static void main(String[] args) throws Exception {
        int wrong = faultsAlike() ? 0 : 1;
        for (int seed = 1; seed <= RUNS; seed++) {
            if (!new ModelTest(seed).runsAlike()) {
                System.out.println("run " + seed + " is not as due");
                wrong++;
            }
        }
        System.out.println(wrong == 0 ? "all runs are as due" : wrong + " runs are not as due");
        if (wrong != 0) {
            System.exit(1);
        }
    }
}
