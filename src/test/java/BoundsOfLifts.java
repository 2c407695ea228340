/** The bounds of LIFTS, of THE GLIDER, of what a CLIMB is: one test for each sentence that names one. */
final class BoundsOfLifts {
    private static final int MIN = Due.MIN, MAX = Due.MAX;

    private BoundsOfLifts() {
    }

    static void all() {
        liftsAreSix();
        liftRefused();
        kindsAreSeven();
        vIsADigit();
        milesAreAHundred();
        pullIsTwentyAtMost();
        gliderAtFirst();
        gliderFromEdgeToEdge();
        homeAtFirst();
        minuteAtFirst();
        noLiftsAtFirst();
        gainMayBeBelowNothing();
        gainAndTheHalfOfV();
        halfOfGain();
        late();
        capped();
        wandering();
        wanderingByV();
        rowAtFirst();
        rowByMinute();
        rowOfLate();
        rowIsADigit();
        pullBecomes();
        whatOfALift();
        homeBecomes();
        heightBecomes();
        whatIsTold();
    }

    private static void due(long got, long want) {
        Due.due(got, want);
    }

    private static void liftsAreSix() {
        Due.sentence("LIFTS 0 .. 5, as they come");
        SomebodysLift x = new SomebodysLift();
        for (int n = 0; n < 6; n++) {
            due(x.of(n, 2), -1001);
            due(x.lift(0, 0, 10 + n, 0), n);
            due(x.count(0), n + 1);
            due(x.of(n, 2), 10 + n);
        }
        due(x.lift(0, 0, 0, 0), -4);
        due(x.lift(6, 9, 99, 20), -4);
        due(x.count(0), 6);
        due(x.of(5, 2), 15);
        due(x.of(6, 2), -1001);
        due(x.of(-1, 2), -1001);
    }

    private static void liftRefused() {
        Due.sentence("A LIFT: its number. NONE: kind; BAD: v, mile, pull; FULL: 6.");
        SomebodysLift x = new SomebodysLift();
        for (int n = 0; n <= 6; n++) {
            due(x.lift(-1, 0, 0, 0), -1);
            due(x.lift(7, 10, 100, 21), -1);
            due(x.lift(6, 10, 0, 0), -2);
            due(x.lift(6, 0, 100, 0), -2);
            due(x.lift(6, 0, 0, 21), -2);
            due(x.count(0), n);
            due(x.lift(6, 9, 99, 20), n < 6 ? n : -4);
        }
    }

    private static void kindsAreSeven() {
        Due.sentence("are of KINDS: 0 LIFT; 1 STRONG, 2 WEAK, 3 LATE under LIFT; 4 CAPPED under STRONG; "
            + "5 WANDERING under WEAK; 6 TOLD under LATE");
        for (int kind = 0; kind < 7; kind++) {
            SomebodysLift x = new SomebodysLift();
            due(x.lift(kind, 0, 0, 0), 0);
            due(x.of(0, 0), kind);
        }
        for (int kind : new int[] {MIN, -1, 7, MAX}) {
            SomebodysLift x = new SomebodysLift();
            due(x.lift(kind, 0, 0, 0), -1);
            due(x.count(0), 0);
        }
    }

    private static void vIsADigit() {
        Due.sentence("with a number v (0 .. 9)");
        for (int v : new int[] {0, 9}) {
            SomebodysLift x = new SomebodysLift();
            due(x.lift(0, v, 0, 0), 0);
            due(x.of(0, 1), v);
        }
        for (int v : new int[] {MIN, -1, 10, MAX}) {
            SomebodysLift x = new SomebodysLift();
            due(x.lift(0, v, 0, 0), -2);
            due(x.count(0), 0);
        }
    }

    private static void milesAreAHundred() {
        Due.sentence("a MILE (0 .. 99)");
        for (int mile : new int[] {0, 99}) {
            SomebodysLift x = new SomebodysLift();
            due(x.lift(0, 0, mile, 0), 0);
            due(x.of(0, 2), mile);
        }
        for (int mile : new int[] {MIN, -1, 100, MAX}) {
            SomebodysLift x = new SomebodysLift();
            due(x.lift(0, 0, mile, 0), -2);
            due(x.count(0), 0);
        }
    }

    private static void pullIsTwentyAtMost() {
        Due.sentence("a PULL (0 .. 20)");
        for (int pull : new int[] {0, 20}) {
            SomebodysLift x = new SomebodysLift();
            due(x.lift(0, 0, 0, pull), 0);
            due(x.of(0, 3), pull);
        }
        for (int pull : new int[] {MIN, -1, 21, MAX}) {
            SomebodysLift x = new SomebodysLift();
            due(x.lift(0, 0, 0, pull), -2);
            due(x.count(0), 0);
        }
    }

    private static void gliderAtFirst() {
        Due.sentence("THE GLIDER: its MILE (0 .. 99; 0 at first), HEIGHT (0 .. 400; 100 at first), "
            + "IN a LIFT or in none (at first)");
        SomebodysLift x = new SomebodysLift();
        due(x.told(1), 0);
        due(x.told(2), 100);
        due(x.told(3), -5);
        x.lift(0, 0, 0, 0);
        due(x.told(3), -5);
        due(x.turn(0), -3);
    }

    private static void gliderFromEdgeToEdge() {
        Due.sentence("THE GLIDER: its MILE (0 .. 99; 0 at first), HEIGHT (0 .. 400;");
        SomebodysLift x = Due.with(0, 0, 0, 20);
        x.enter(0);
        due(x.turn(15), 400);
        due(x.turn(1), 400);
        due(x.height(0), 400);
        due(x.told(2), 0);
        // 99 miles are too far for one glide.
        for (int mile = 33; mile <= 99; mile += 33) {
            x.height(400);
            due(x.glide(mile, 1), 400 - 33 * 6);
            due(x.told(1), mile);
        }
        for (int mile = 66; mile >= 0; mile -= 33) {
            x.height(400);
            due(x.glide(mile, 1), 400 - 33 * 6);
            due(x.told(1), mile);
        }
    }

    private static void homeAtFirst() {
        Due.sentence("HOME (a MILE; 60 at first)");
        SomebodysLift x = new SomebodysLift();
        due(x.told(4), 60);
        due(x.home(99), 60);
        due(x.home(0), 99);
        due(x.told(4), 0);
    }

    private static void minuteAtFirst() {
        Due.sentence("MINUTE: 0 at first");
        SomebodysLift x = Due.with(0, 0, 0, 0);
        due(x.told(0), 0);
        due(x.enter(0), 0);
        due(x.told(0), 0);
    }

    private static void noLiftsAtFirst() {
        Due.sentence("No LIFTS, no AIR.");
        SomebodysLift x = new SomebodysLift();
        due(x.count(0), 0);
        due(x.count(1), 0);
        due(x.of(0, 0), -1001);
        due(x.told(5), 400);
        due(x.told(6), 80);
        due(x.reach(1), 0);
        due(x.next(1), -5);
        due(x.two(1, 0), -5);
        // One object has nothing of another.
        x.lift(0, 0, 0, 0);
        Due.air(x, "base 1");
        due(new SomebodysLift().count(0), 0);
        due(new SomebodysLift().count(1), 0);
        due(new SomebodysLift().told(5), 400);
    }

    // ---- GAIN and CLIMB

    private static void gainMayBeBelowNothing() {
        Due.sentence("and the n of all up whose E holds, less those of all down, together (may be below 0)");
        SomebodysLift x = Due.with(0, 0, 0, 3, "down 4 l=0");
        due(x.of(0, 4), -1);
        due(x.of(0, 5), -1);
        Due.air(x, "down 99 l=0;down 99 l<9;up 50 l=1;down 99 l=0;up 7 k=0");
        due(x.of(0, 4), 3 - 99 - 99 - 99 + 7);
        Due.air(x, "up 99 l=0;up 99 l<9;up 99 k=0;down 50 l>0");
        due(x.of(0, 4), 3 + 99 + 99 + 99);
        Due.air(x, "up 0 l=0;down 3 l=0");
        due(x.of(0, 4), 0);
    }

    private static void gainAndTheHalfOfV() {
        Due.sentence("STRONG: GAIN and the half of v (cut)");
        int[] half = {0, 0, 1, 1, 2, 2, 3, 3, 4, 4};
        for (int v = 0; v < 10; v++) {
            due(Due.with(1, v, 0, 7).of(0, 5), 7 + half[v]);
        }
        due(Due.with(1, 9, 0, 0, "down 1 l=0").of(0, 5), 3);
        due(Due.with(1, 1, 0, 0, "down 1 l=0").of(0, 5), -1);
    }

    private static void halfOfGain() {
        Due.sentence("WEAK: the half of GAIN (cut toward 0)");
        for (int gain : new int[] {0, 1, 2, 3, 20}) {
            due(Due.with(2, 9, 0, gain).of(0, 5), gain == 20 ? 10 : gain > 1 ? 1 : 0);
        }
        int[] half = {0, 0, -1, -1, -2, -2};
        for (int down = 0; down < half.length; down++) {
            due(Due.with(2, 9, 0, 0, "down " + down + " l=0").of(0, 5), half[down]);
        }
    }

    private static void late() {
        Due.sentence("LATE: GAIN, but -2, if MINUTE is 100 and more");
        SomebodysLift x = Due.with(3, 9, 0, 7);
        due(x.of(0, 5), 7);
        Due.later(x, 0, 99, 100);
        due(x.told(0), 99);
        due(x.of(0, 5), 7);
        due(x.up(0, 1), 107);
        due(x.up(0, 2), 105);
        x.turn(1);
        x.height(100);
        due(x.of(0, 5), -2);
        due(x.of(0, 4), 7);
        x.turn(1);
        due(x.of(0, 5), -2);
        // Also where GAIN is less than that.
        Due.air(x, "down 50 l=0");
        due(x.of(0, 4), -43);
        due(x.of(0, 5), -2);
        due(x.turn(60), 0);
        due(x.of(0, 5), -2);
    }

    private static void capped() {
        Due.sentence("CAPPED: as STRONG, but 0, if HEIGHT is more than 40 times v");
        for (int v = 0; v < 10; v++) {
            SomebodysLift x = Due.with(4, v, 0, 7);
            x.height(40 * v);
            due(x.of(0, 5), 7 + v / 2);
            x.height(40 * v + 1);
            due(x.of(0, 5), 0);
            x.height(400);
            due(x.of(0, 5), 0);
            x.height(0);
            due(x.of(0, 5), 7 + v / 2);
        }
        // 0 also where GAIN is below 0.
        SomebodysLift x = Due.with(4, 2, 0, 0, "down 5 l=0");
        x.height(80);
        due(x.of(0, 5), -4);
        x.height(81);
        due(x.of(0, 5), 0);
        // It stands at the first HEIGHT that is more.
        due(Due.with(4, 3, 0, 5).up(0, 60), 124);
    }

    private static void wandering() {
        Due.sentence("WANDERING: as WEAK, but -1 at MINUTES that are multiples of v and 2");
        SomebodysLift x = Due.with(5, 1, 0, 9);
        x.enter(0);
        int[] climbs = {-1, 4, 4, -1, 4, 4, -1};
        for (int minute = 0; minute < climbs.length; minute++) {
            due(x.told(0), minute);
            due(x.of(0, 5), climbs[minute]);
            x.turn(1);
        }
        // -1 also where the half of GAIN is less; cut toward 0 else.
        x = Due.with(5, 0, 0, 0, "down 9 l=0");
        due(x.of(0, 5), -1);
        due(x.up(0, 1), 99);
        due(x.up(0, 2), 95);
        due(x.up(0, 3), 94);
    }

    private static void wanderingByV() {
        Due.sentence("-1 at MINUTES that are multiples of v and 2");
        for (int v = 0; v < 10; v++) {
            SomebodysLift x = Due.with(5, v, 0, 4);
            int height = 100;
            for (int minute = 0; minute <= 24; minute++) {
                due(x.up(0, minute), height);
                height += minute % (v + 2) == 0 ? -1 : 2;
            }
        }
    }

    private static void rowAtFirst() {
        Due.sentence("its ROW (four numbers 0 .. 9; 0 at first)");
        SomebodysLift x = Due.with(6, 0, 0, 5);
        due(x.up(0, 4), 120);
        for (int part = 0; part < 4; part++) {
            due(x.row(0, part, 9), 0);
            due(x.row(0, part, 9), 9);
        }
        due(x.up(0, 4), 156);
        // The place for the second one is a new one, too.
        x.lift(6, 0, 0, 5);
        due(x.up(1, 4), 120);
        for (int part = 0; part < 4; part++) {
            due(x.row(1, part, 0), 0);
        }
    }

    private static void rowByMinute() {
        Due.sentence("TOLD: as LATE, and its ROW (four numbers 0 .. 9; 0 at first) at MINUTE modulo 4 more");
        SomebodysLift x = Due.with(6, 0, 0, 0);
        int[] row = {1, 2, 4, 8};
        for (int part = 0; part < 4; part++) {
            x.row(0, part, row[part]);
        }
        x.enter(0);
        for (int minute = 0; minute < 10; minute++) {
            due(x.told(0), minute);
            due(x.of(0, 5), row[minute % 4]);
            x.turn(1);
        }
    }

    private static void rowOfLate() {
        Due.sentence("TOLD: as LATE");
        SomebodysLift x = Due.with(6, 9, 0, 5);
        x.row(0, 3, 1);
        x.row(0, 0, 9);
        Due.later(x, 0, 99, 100);
        due(x.of(0, 5), 6);
        x.turn(1);
        due(x.told(0), 100);
        due(x.of(0, 5), 7);
        x.turn(1);
        due(x.of(0, 5), -2);
    }

    // ---- what becomes of them, what is told

    private static void rowIsADigit() {
        Due.sentence("The ROW of a TOLD one becomes n (0 .. 9) for MINUTES modulo 4 being part: what it was. "
            + "NONE: lift, part; BAD; STATE: another KIND.");
        SomebodysLift x = Due.with(6, 0, 0, 0);
        due(x.row(0, 0, 9), 0);
        due(x.row(0, 3, 0), 0);
        for (int n : new int[] {MIN, -1, 10, MAX}) {
            due(x.row(0, 0, n), -2);
        }
        for (int part : new int[] {MIN, -1, 4, MAX}) {
            due(x.row(0, part, 1), -1);
            due(x.row(0, part, 10), -1);
        }
        for (int lift : new int[] {MIN, -1, 1, 6, MAX}) {
            due(x.row(lift, 0, 1), -1);
            due(x.row(lift, 0, 10), -1);
        }
        due(x.row(0, 0, 9), 9);
        for (int kind = 0; kind < 6; kind++) {
            SomebodysLift y = Due.with(kind, 0, 0, 0);
            due(y.row(0, 0, 0), -3);
            due(y.row(0, 3, 9), -3);
            due(y.row(0, 3, 10), -2);
            due(y.row(0, 4, 9), -1);
            due(y.row(1, 3, 9), -1);
        }
    }

    private static void pullBecomes() {
        Due.sentence("PULL of a LIFT becomes n: what it was. NONE; BAD.");
        SomebodysLift x = Due.with(0, 0, 0, 7);
        due(x.pull(0, 20), 7);
        due(x.pull(0, 0), 20);
        for (int n : new int[] {MIN, -1, 21, MAX}) {
            due(x.pull(0, n), -2);
        }
        for (int lift : new int[] {MIN, -1, 1, 6, MAX}) {
            due(x.pull(lift, 1), -1);
            due(x.pull(lift, 21), -1);
        }
        due(x.of(0, 3), 0);
    }

    private static void whatOfALift() {
        Due.sentence("Of a LIFT what 0 KIND, 1 v, 2 MILE, 3 PULL, 4 GAIN, 5 CLIMB as HEIGHT and MINUTE are now. "
            + "-1001: NONE.");
        SomebodysLift x = Due.with(1, 5, 7, 20, "down 26 h=2");
        int[] due = {1, 5, 7, 20, -6, -4};
        for (int what = 0; what < 6; what++) {
            due(x.of(0, what), due[what]);
        }
        for (int what : new int[] {MIN, -1, 6, MAX}) {
            due(x.of(0, what), -1001);
        }
        for (int lift : new int[] {MIN, -1, 1, 6, MAX}) {
            due(x.of(lift, 0), -1001);
            due(x.of(lift, 6), -1001);
        }
    }

    private static void homeBecomes() {
        Due.sentence("HOME becomes a MILE: where it was. BAD.");
        SomebodysLift x = new SomebodysLift();
        due(x.home(0), 60);
        due(x.home(99), 0);
        for (int mile : new int[] {MIN, -1, 100, MAX}) {
            due(x.home(mile), -2);
        }
        due(x.told(4), 99);
    }

    private static void heightBecomes() {
        Due.sentence("HEIGHT becomes n: what it was. BAD.");
        SomebodysLift x = new SomebodysLift();
        due(x.height(0), 100);
        due(x.height(400), 0);
        for (int n : new int[] {MIN, -1, 401, MAX}) {
            due(x.height(n), -2);
        }
        due(x.told(2), 400);
        // It may stand above BASE.
        Due.air(x, "base 1");
        due(x.height(11), 400);
        due(x.height(400), 11);
        due(x.told(2), 400);
    }

    private static void whatIsTold() {
        Due.sentence("What 0 MINUTE, 1 MILE, 2 HEIGHT, 3 the LIFT one is IN (-5: none), 4 HOME, 5 BASE in full, "
            + "6 SAFE in full. NONE.");
        SomebodysLift x = Due.with(0, 0, 2, 3, "base 7;safe 6");
        x.glide(2, 4);
        int[] between = {12, 2, 82, -5, 60, 70, 60};
        for (int what = 0; what < 7; what++) {
            due(x.told(what), between[what]);
        }
        x.enter(0);
        due(x.told(3), 0);
        for (int what : new int[] {MIN, -1, 7, MAX}) {
            due(x.told(what), -1);
        }
    }
}
