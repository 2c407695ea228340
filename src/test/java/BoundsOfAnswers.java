/** What holds for the answers of all calls: the constants, which refusal comes first, that nothing changes by one. */
final class BoundsOfAnswers {
    private BoundsOfAnswers() {
    }

    static void all() {
        constants();
        noSuchNumber();
        refusalsOfLifts();
        refusalsOfFlying();
        refusalsOfAsked();
        refusalsOfRows();
        refusalsOfTapes();
        refusedChangesNothing();
        fullChangesNothing();
        nothingByNone();
        askedChangesNothing();
        askedOfActsAndTapes();
        callsAreManyAtMost();
    }

    private static void due(long got, long want) {
        Due.due(got, want);
    }

    private static void constants() {
        Due.sentence("Answers: NONE (-1) no such number; BAD (-2) a number is not as told; STATE (-3) as told; FULL (-4)");
        due(SomebodysLift.NONE, -1);
        due(SomebodysLift.BAD, -2);
        due(SomebodysLift.STATE, -3);
        due(SomebodysLift.FULL, -4);
    }

    private static void noSuchNumber() {
        Due.sentence("`NO = Long.MIN_VALUE`: There is no such number.");
        due(SomebodysLift.NO, -9223372036854775808L);
    }

    // ---- the first that a call's words name

    private static void refusalsOfLifts() {
        Due.sentence("Answers: NONE (-1) no such number; BAD (-2) a number is not as told; STATE (-3) as told; FULL (-4); "
            + "the first that a call's words name.");
        SomebodysLift x = new SomebodysLift();
        due(x.lift(7, 10, 0, 0), -1);
        due(x.lift(7, 0, 100, 0), -1);
        due(x.lift(7, 0, 0, 21), -1);
        for (int n = 0; n < 6; n++) {
            x.lift(n, 0, 0, 0);
        }
        due(x.lift(7, 0, 0, 0), -1);
        due(x.lift(7, 10, 100, 21), -1);
        due(x.lift(0, 10, 0, 0), -2);
        due(x.lift(0, 0, 100, 0), -2);
        due(x.lift(0, 0, 0, 21), -2);
        due(x.lift(0, 0, 0, 0), -4);
        due(x.of(6, 6), -1001);
        due(x.pull(6, 21), -1);
        due(x.row(6, 4, 10), -1);
        due(x.row(0, 4, 10), -1);
        due(x.row(0, 3, 10), -2);
        due(x.row(0, 3, 9), -3);
        for (int n = 0; n < 100; n++) {
            x.feed('x');
        }
        due(x.feed(128), -2);
        due(x.feed(-1), -2);
        due(x.feed('x'), -4);
    }

    private static void refusalsOfFlying() {
        Due.sentence("STATE (-3) as told; FULL (-4); the first that a call's words name.");
        SomebodysLift x = Due.with(0, 0, 1, 0);
        due(x.enter(1), -1001);
        due(x.enter(0), -1002);
        due(x.turn(61), -2);
        due(x.turn(60), -3);
        due(x.glide(100, 1), -2);
        due(x.glide(99, 10), -2);
        due(x.glide(99, 1), -3);
    }

    private static void refusalsOfAsked() {
        Due.sentence("BAD (-2) a number is not as told; STATE (-3) as told; FULL (-4); the first that a call's words name.");
        SomebodysLift x = Due.with(0, 0, 1, 0);
        due(x.up(1, 61), -1);
        due(x.up(0, 61), -2);
        due(x.top(1, 2), -1);
        due(x.lowest(1, 10), -1);
        due(x.lowest(0, 10), -2);
        due(x.by(1, 10, 0), -1);
        due(x.by(0, 10, 2), -1);
        due(x.by(0, 10, 1), -2);
        due(x.two(10, 2), -1);
        due(x.two(10, 1), -2);
        due(x.flown(10, 2), -1);
        due(x.flown(10, 1), -2);
        due(x.taken(1, 7), -2);
        due(x.taken(1, 6), -11);
        due(x.taken(0, 6), -12);
    }

    private static void refusalsOfRows() {
        Due.sentence("FULL (-4); the first that a call's words name.");
        SomebodysLift x = Due.with(0, 0, 1, 0);
        for (int n = 0; n < 8; n++) {
            x.leg(0, 0);
            x.see(0);
            x.book(0, 0);
        }
        due(x.leg(1, 61), -1);
        due(x.leg(0, 61), -2);
        due(x.leg(0, 60), -4);
        due(x.see(100), -2);
        due(x.see(99), -4);
        due(x.book(1, 100), -1);
        due(x.book(0, 100), -2);
        due(x.book(0, 99), -4);
        due(x.see(-100), 0);
        due(x.leg(-1, 61), 0);
        due(x.book(-1, 100), 0);
    }

    private static void refusalsOfTapes() {
        Due.sentence("The host's refusals: NOTHING (-11): nothing is there; CAST (-12): another sort or KIND; "
            + "PLACE (-13): no such place; SIZE (-14): a size below 0.");
        SomebodysLift x = Due.with(0, 0, 1, 0);
        x.tape(0, 0, 2);
        x.tape(1, 1, 2);
        due(x.tape(6, 5, 61), -1);
        due(x.tape(0, 5, 61), -2);
        due(x.tape(0, 5, -1), -2);
        due(x.tape(0, 4, 61), -2);
        due(x.tape(0, 4, -1), -14);
        due(x.item(6, 9, 0), -1);
        due(x.item(2, 9, 0), -11);
        due(x.item(0, 9, 0), -13);
        due(x.shift(6, 9, 2, 9, 9), -1);
        due(x.shift(2, 9, 6, 9, 9), -1);
        due(x.shift(2, 9, 1, 9, 9), -11);
        due(x.shift(1, 9, 2, 9, 9), -11);
        due(x.shift(0, 9, 1, 9, 9), -12);
        due(x.shift(0, 9, 0, 9, 9), -13);
        due(x.judge(6, -1), -1);
        due(x.judge(1, -1), -12);
        due(x.judge(2, -1), 100);
        due(x.taken(0, 1), -12);
        due(x.taken(1, 1), -11);
    }

    // ---- nothing changes

    private static void refusedChangesNothing() {
        Due.sentence("What is answered so changes nothing");
        SomebodysLift x = Due.busy();
        for (int n : new int[] {Due.MIN, -1, 7, Due.MAX}) {
            due(x.lift(n, 0, 0, 0), -1);
            due(x.lift(0, n == 7 ? 10 : n, 0, 0), -2);
            due(x.lift(0, 0, n == 7 ? 100 : n, 0), -2);
            due(x.lift(0, 0, 0, n == 7 ? 21 : n), -2);
            due(x.pull(n, 1), -1);
            due(x.pull(0, n == 7 ? 21 : n), -2);
            due(x.row(n, 1, 1), -1);
            due(x.row(0, n, 1), -1);
            due(x.row(0, 1, n == 7 ? 10 : n), -2);
            due(x.row(1, 1, 1), -3);
            due(x.feed(n == 7 ? 128 : n), -2);
            due(x.home(n == 7 ? 100 : n), -2);
            due(x.height(n == 7 ? 401 : n), -2);
            due(x.enter(n), -1001);
            due(x.enter(1), -1002);
            due(x.turn(n == 7 ? 61 : n), -2);
            due(x.glide(n == 7 ? 100 : n, 1), -2);
            due(x.glide(1, n == 7 ? 10 : n), -2);
            due(x.glide(99, 1), -3);
            due(x.leg(n == -1 ? -2 : n, 1), -1);
            due(x.leg(0, n == 7 ? 61 : n), -2);
            due(x.see(n == 7 ? 100 : n == -1 ? -101 : n), -2);
            due(x.book(n == -1 ? -2 : n, 1), -1);
            due(x.book(0, n == 7 ? 100 : n == -1 ? -100 : n), -2);
            due(x.tape(n, 0, 1), -1);
            due(x.tape(0, n == -1 ? -2 : n, 1), -2);
            due(x.tape(0, 0, n > 0 ? n == 7 ? 61 : n : -1), n > 0 ? -2 : -14);
            due(x.item(n, 0, 9), -1);
            due(x.item(2, n, 9), -11);
            due(x.item(0, n, 9), -13);
            due(x.shift(n, 0, 0, 0, 1), -1);
            due(x.shift(0, 0, n, 0, 1), -1);
            due(x.shift(0, 0, 2, 0, 1), -11);
            due(x.shift(0, 0, 1, 0, 1), -12);
            due(x.shift(0, n, 0, 0, 1), -13);
            due(x.shift(0, 0, 0, n, 1), -13);
            due(x.shift(0, 0, 0, 0, n), -13);
        }
        Due.unchanged(x, Due.busy());
    }

    private static SomebodysLift full() {
        SomebodysLift x = Due.busy();
        for (int n = 0; n < 8; n++) {
            x.lift(0, n, 1, n);
            x.leg(1, n);
            x.see(n);
            x.book(2, n);
        }
        x.air();
        for (int n = 1; n < 6; n++) {
            Due.air(x, "base 3" + n);
        }
        for (int n = 0; n < 100; n++) {
            x.feed('u');
        }
        x.image();
        return x;
    }

    private static void fullChangesNothing() {
        Due.sentence("FULL (-4); the first that a call's words name. What is answered so changes nothing");
        SomebodysLift x = full();
        for (int n = 0; n < 3; n++) {
            due(x.lift(1, 9, 9, 9), -4);
            due(x.feed('d'), -4);
            due(x.air(), -4);
            due(x.leg(0, 9), -4);
            due(x.see(9), -4);
            due(x.book(0, 9), -4);
        }
        Due.unchanged(x, full());
    }

    /** STATE of an object that is in no lift and has no image. */
    private static void nothingByNone() {
        Due.sentence("as told; FULL (-4); the first that a call's words name. What is answered so changes nothing");
        SomebodysLift x = Due.with(0, 0, 0, 5);
        due(x.undo(), -3);
        due(x.turn(0), -3);
        due(x.turn(5), -3);
        due(x.glide(99, 1), -3);
        Due.unchanged(x, Due.with(0, 0, 0, 5));
        // ... and where MINUTE would be above 9999.
        x = Due.with(0, 0, 0, 5);
        SomebodysLift twin = Due.with(0, 0, 0, 5);
        Due.later(x, 0, 9990, 100);
        Due.later(twin, 0, 9990, 100);
        due(x.turn(10), -3);
        due(x.glide(2, 1), -3);
        Due.unchanged(x, twin);
    }

    private static void askedChangesNothing() {
        Due.sentence("what is asked changes nothing.");
        SomebodysLift x = Due.busy();
        for (int lift = 0; lift < 3; lift++) {
            for (int what = 0; what < 6; what++) {
                x.of(lift, what);
            }
            x.up(lift, 60);
            x.top(lift, 0);
            x.top(lift, 1);
            x.lowest(lift, 3);
            x.worth(lift);
            for (int pace = 1; pace <= 9; pace += 4) {
                x.by(lift, pace, 0);
                x.by(lift, pace, 1);
                x.arrives(4 * lift, pace);
                x.outed(4 * lift, pace);
            }
        }
        for (int pace = 1; pace <= 9; pace++) {
            x.reach(pace);
            x.next(pace);
            x.straight(pace);
            x.two(pace, 0);
            x.two(pace, 1);
            x.flown(pace, 0);
            x.flown(pace, 1);
        }
        for (int what = 0; what < 3; what++) {
            x.best(what);
        }
        Due.unchanged(x, Due.busy());
    }

    private static void askedOfActsAndTapes() {
        Due.sentence("is asked, goes on from how all is (MINUTES also beyond 9999), and changes nothing.");
        SomebodysLift x = Due.busy();
        for (int part = 0; part < 2; part++) {
            x.odds(120, 30, part);
            x.mean(30, part);
        }
        x.who();
        x.looked();
        for (int n = 0; n < 7; n++) {
            x.told(n);
            x.count(n);
            x.trace(n);
            x.judge(n - 1, 1);
            x.read(0, n - 1);
            x.taken(n, 4);
            x.taken(1, n);
        }
        Due.unchanged(x, Due.busy());
    }

    /** The last of 512 calls is answered as the first; each makes the dearest trials there are. */
    private static void callsAreManyAtMost() {
        Due.sentence("An object is used for at most 512 calls after it has been made");
        SomebodysLift x = new SomebodysLift();
        for (int n = 0; n < 6; n++) {
            x.lift(n + 1, n, 2 * n, 3 + n);
        }
        x.home(11);
        int best = x.best(2);
        int two = x.two(1, 1);
        int worth = x.worth(0);
        for (int calls = 9; calls < 510; calls += 3) {
            due(x.best(2), best);
            due(x.two(1, 1), two);
            due(x.worth(0), worth);
        }
    }
}
