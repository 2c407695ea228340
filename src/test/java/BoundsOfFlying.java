/** The bounds of MINUTES IN a LIFT and of GLIDES, and of what is asked of them: a test for each sentence. */
final class BoundsOfFlying {
    private BoundsOfFlying() {
    }

    static void all() {
        noHigherThanBase();
        noHigherThanWhereItWas();
        sinksFromAboveBase();
        notBelowTheGround();
        aMinuteIsAMinute();
        paces();
        minutesAndHeightOfAMile();
        enoughForAllMiles();
        gliding();
        entering();
        turning();
        turningTillTheLast();
        glidingTillTheLast();
        inNoneThen();
        askedBeyondTheLast();
        upOfMinutes();
        upRefused();
        topOfMinutes();
        topLeast();
        topRefused();
        arriving();
        arrivesRefused();
        outed();
        outedOnTheWay();
        outedRefused();
        reaching();
        reachingAsBits();
        reachRefused();
        nextGreatest();
        nextAsThen();
        nextFirst();
        nextRefused();
        lowest();
        lowestAbove();
        lowestRefused();
    }

    private static void due(long got, long want) {
        Due.due(got, want);
    }

    // ---- a minute in a lift

    private static void noHigherThanBase() {
        Due.sentence("if it rises so, it comes no higher than BASE");
        SomebodysLift x = Due.with(0, 0, 0, 7, "base 12");
        due(x.up(0, 2), 114);
        due(x.up(0, 3), 120);
        due(x.up(0, 4), 120);
        x.enter(0);
        x.height(113);
        due(x.turn(1), 120);
        x.height(112);
        due(x.turn(1), 119);
        due(x.turn(1), 120);
        due(x.turn(60), 120);
        // Without an AIR BASE is 400.
        x = Due.with(0, 0, 0, 1);
        x.enter(0);
        x.height(398);
        due(x.turn(1), 399);
        due(x.turn(1), 400);
        due(x.turn(1), 400);
    }

    private static void noHigherThanWhereItWas() {
        Due.sentence("or than where it was, if that is above BASE");
        SomebodysLift x = Due.with(0, 0, 0, 7, "base 12");
        x.enter(0);
        x.height(121);
        due(x.turn(1), 121);
        due(x.turn(9), 121);
        x.height(400);
        due(x.turn(60), 400);
        due(x.up(0, 60), 400);
        due(x.top(0, 0), 400);
        due(x.top(0, 1), 0);
    }

    private static void sinksFromAboveBase() {
        Due.sentence("if it rises so");
        SomebodysLift x = Due.with(0, 0, 0, 0, "down 3 l=0;base 12");
        x.enter(0);
        x.height(124);
        due(x.turn(1), 121);
        due(x.turn(1), 118);
        due(x.turn(1), 115);
        x.height(400);
        due(x.turn(2), 394);
        x.pull(0, 3);
        due(x.turn(2), 394);
    }

    private static void notBelowTheGround() {
        Due.sentence("0 at least. MINUTE is 1 more.");
        SomebodysLift x = Due.with(0, 0, 0, 0, "down 99 l=0");
        x.enter(0);
        due(x.turn(1), 1);
        due(x.turn(1), 0);
        due(x.turn(1), 0);
        due(x.told(0), 3);
        x.height(99);
        due(x.turn(1), 0);
        x.height(100);
        due(x.up(0, 1), 1);
        due(x.up(0, 2), 0);
        due(x.up(0, 60), 0);
        // From the ground it rises again.
        x.height(0);
        Due.air(x, "up 2 l=0");
        due(x.turn(1), 2);
    }

    private static void aMinuteIsAMinute() {
        Due.sentence("MINUTE is 1 more.");
        SomebodysLift x = Due.with(0, 0, 0, 20);
        x.enter(0);
        x.turn(0);
        due(x.told(0), 0);
        x.turn(1);
        due(x.told(0), 1);
        x.turn(60);
        due(x.told(2), 400);
        due(x.told(0), 61);
    }

    // ---- a glide

    private static void paces() {
        Due.sentence("A GLIDE from where one is to a MILE with a PACE p (1 .. 9)");
        SomebodysLift x = Due.with(0, 0, 0, 0);
        for (int pace : new int[] {1, 9}) {
            due(x.arrives(0, pace), 100);
            due(x.outed(0, pace), 0);
            due(x.reach(pace), 1);
            due(x.next(pace), 0);
            due(x.lowest(0, pace), 80);
            due(x.straight(pace), -5);
            due(x.by(0, pace, 0), -5);
            due(x.two(pace, 0), -5);
            due(x.flown(pace, 0), -5);
            due(x.glide(0, pace), 100);
        }
        for (int pace : new int[] {Due.MIN, -1, 0, 10, Due.MAX}) {
            due(x.arrives(0, pace), -2);
            due(x.outed(0, pace), -2);
            due(x.reach(pace), -2);
            due(x.next(pace), -2);
            due(x.lowest(0, pace), -2);
            due(x.straight(pace), -2);
            due(x.by(0, pace, 0), -2);
            due(x.two(pace, 0), -2);
            due(x.flown(pace, 0), -2);
            due(x.glide(0, pace), -2);
        }
    }

    private static void minutesAndHeightOfAMile() {
        Due.sentence("for each mile, 10 less p MINUTES go, and HEIGHT is 5 and p less");
        int[] minutes = {9, 8, 7, 6, 5, 4, 3, 2, 1};
        int[] sinks = {6, 7, 8, 9, 10, 11, 12, 13, 14};
        for (int pace = 1; pace <= 9; pace++) {
            SomebodysLift x = new SomebodysLift();
            due(x.glide(0, pace), 100);
            due(x.told(0), 0);
            due(x.glide(1, pace), 100 - sinks[pace - 1]);
            due(x.told(0), minutes[pace - 1]);
            x.height(400);
            due(x.glide(21, pace), 400 - 20 * sinks[pace - 1]);
            due(x.told(0), 21 * minutes[pace - 1]);
            // Back is as far.
            x.height(100);
            due(x.glide(18, pace), 100 - 3 * sinks[pace - 1]);
            due(x.told(0), 24 * minutes[pace - 1]);
        }
    }

    private static void enoughForAllMiles() {
        Due.sentence("if HEIGHT is not enough for all of these, it is OUT");
        SomebodysLift x = new SomebodysLift();
        due(x.arrives(10, 5), 0);
        due(x.arrives(11, 5), -5);
        x.height(99);
        due(x.arrives(10, 5), -5);
        due(x.arrives(9, 5), 9);
        due(x.glide(10, 5), -3);
        due(x.told(1), 0);
        due(x.told(2), 99);
        due(x.told(0), 0);
        x.height(100);
        due(x.glide(10, 5), 0);
        due(x.told(1), 10);
        due(x.glide(9, 1), -3);
        due(x.glide(11, 1), -3);
        due(x.glide(10, 9), 0);
        due(x.told(0), 50);
    }

    // ---- flying

    private static void gliding() {
        Due.sentence("A GLIDE to a MILE with a PACE (one is IN no LIFT then): HEIGHT. BAD; STATE: it would be OUT, "
            + "or MINUTE above 9999.");
        SomebodysLift x = new SomebodysLift();
        x.height(400);
        for (int mile : new int[] {Due.MIN, -1, 100, Due.MAX}) {
            due(x.glide(mile, 1), -2);
            due(x.glide(mile, 0), -2);
        }
        for (int pace : new int[] {Due.MIN, -1, 0, 10, Due.MAX}) {
            due(x.glide(0, pace), -2);
            due(x.glide(99, pace), -2);
        }
        due(x.glide(99, 1), -3);
        due(x.glide(67, 1), -3);
        due(x.told(1), 0);
        due(x.glide(66, 1), 4);
        x.height(400);
        due(x.glide(99, 1), 202);
        due(x.glide(99, 9), 202);
    }

    private static void entering() {
        Due.sentence("One is IN a LIFT: CLIMB. -1001: NONE; -1002: STATE: its MILE is another one.");
        SomebodysLift x = Due.with(0, 0, 5, 3);
        x.lift(2, 0, 5, 9);
        x.lift(0, 0, 4, 3);
        x.lift(0, 0, 6, 3);
        due(x.enter(0), -1002);
        due(x.told(3), -5);
        x.glide(5, 1);
        due(x.enter(0), 3);
        due(x.told(3), 0);
        due(x.enter(1), 4);
        due(x.told(3), 1);
        due(x.enter(2), -1002);
        due(x.enter(3), -1002);
        for (int lift : new int[] {Due.MIN, -5, -1, 4, 6, Due.MAX}) {
            due(x.enter(lift), -1001);
        }
        due(x.told(3), 1);
        due(x.enter(1), 4);
        // A CLIMB as low as the refusals of other calls.
        Due.air(x, "down 8 l=0");
        due(x.enter(0), -5);
        due(x.told(3), 0);
        Due.air(x, "down 99 l=0;down 99 l=0;down 99 l=0;down 99 l=0;down 99 l=0;down 99 l=0;down 99 l=0");
        due(x.enter(0), 3 - 7 * 99);
    }

    private static void turning() {
        Due.sentence("n MINUTES (0 .. 60) IN the LIFT: HEIGHT. BAD; STATE: one is IN none, "
            + "or MINUTE would be above 9999.");
        SomebodysLift x = Due.with(0, 0, 0, 3);
        due(x.turn(0), -3);
        due(x.turn(60), -3);
        for (int n : new int[] {Due.MIN, -1, 61, Due.MAX}) {
            due(x.turn(n), -2);
        }
        x.enter(0);
        for (int n : new int[] {Due.MIN, -1, 61, Due.MAX}) {
            due(x.turn(n), -2);
        }
        due(x.told(0), 0);
        due(x.turn(0), 100);
        due(x.turn(60), 280);
        due(x.told(0), 60);
    }

    private static void turningTillTheLast() {
        Due.sentence("or MINUTE would be above 9999");
        SomebodysLift x = Due.with(0, 0, 0, 0);
        Due.later(x, 0, 9940, 300);
        due(x.turn(60), -3);
        due(x.told(0), 9940);
        due(x.turn(59), 300);
        due(x.told(0), 9999);
        due(x.turn(1), -3);
        due(x.turn(60), -3);
        due(x.turn(61), -2);
        due(x.turn(0), 300);
        due(x.told(0), 9999);
    }

    private static void glidingTillTheLast() {
        Due.sentence("it would be OUT, or MINUTE above 9999");
        SomebodysLift x = Due.with(0, 0, 0, 0);
        Due.later(x, 0, 9990, 300);
        due(x.glide(2, 5), -3);
        due(x.glide(10, 9), -3);
        due(x.told(0), 9990);
        due(x.told(3), 0);
        due(x.glide(1, 1), 294);
        due(x.told(0), 9999);
        due(x.glide(0, 9), -3);
        due(x.told(1), 1);
        due(x.glide(1, 9), 294);
    }

    private static void inNoneThen() {
        Due.sentence("(one is IN no LIFT then)");
        SomebodysLift x = Due.with(0, 0, 0, 3);
        x.enter(0);
        due(x.glide(99, 1), -3);
        due(x.glide(99, 0), -2);
        due(x.told(3), 0);
        due(x.glide(0, 1), 100);
        due(x.told(3), -5);
        due(x.turn(1), -3);
        x.enter(0);
        due(x.glide(1, 1), 94);
        due(x.told(3), -5);
    }

    // ---- what is asked

    private static void askedBeyondTheLast() {
        Due.sentence("All that follows is asked, goes on from how all is (MINUTES also beyond 9999)");
        SomebodysLift x = Due.with(0, 0, 0, 2);
        x.lift(6, 0, 5, 9);
        x.lift(5, 3, 10, 6);
        for (int part = 0; part < 4; part++) {
            x.row(1, part, 2 + part);
        }
        x.home(10);
        Due.later(x, 0, 9999, 100);
        due(x.told(0), 9999);
        due(x.up(0, 60), 220);
        due(x.top(0, 0), 220);
        due(x.top(0, 1), 60);
        due(x.arrives(10, 5), 0);
        // 9999 is 3 modulo 4, and 10000 is 0: -2 and 5, -2 and 2, 3, 4.
        due(x.up(1, 1), 103);
        due(x.up(1, 5), 103 + 0 + 1 + 2 + 3);
        // Of 5, in turn, from 9999: 3, -1, 3, 3, 3, 3, -1.
        due(x.up(2, 1), 103);
        due(x.up(2, 2), 102);
        due(x.up(2, 7), 113);
        x.height(200);
        due(x.straight(1), 90);
        due(x.flown(1, 1), 90);
        x.height(110);
        due(x.by(0, 1, 0), 15 + 90);
        // With PACE 9 55 MINUTES more; by the other LIFTS 36 at the last one, with PACE 6.
        due(x.best(2), 55 + 10);
        due(x.worth(0), 40 + 36 - 65);
        due(x.reach(1), 3);
        due(x.next(1), 0);
        due(x.told(0), 9999);
    }

    private static void upOfMinutes() {
        Due.sentence("UP of a LIFT and n MINUTES (0 .. 60): HEIGHT behind n MINUTES IN it, were one there now.");
        SomebodysLift x = Due.with(0, 0, 77, 2);
        due(x.up(0, 0), 100);
        due(x.up(0, 1), 102);
        due(x.up(0, 60), 220);
        for (int n : new int[] {Due.MIN, -1, 61, Due.MAX}) {
            due(x.up(0, n), -2);
        }
    }

    private static void upRefused() {
        Due.sentence("UP. NONE; BAD: n.");
        SomebodysLift x = Due.with(0, 0, 77, 2);
        due(x.up(0, -1), -2);
        due(x.up(0, 61), -2);
        for (int lift : new int[] {Due.MIN, -1, 1, 6, Due.MAX}) {
            due(x.up(lift, 1), -1);
            due(x.up(lift, 61), -1);
        }
    }

    private static void topOfMinutes() {
        Due.sentence("TOP of a LIFT: the greatest such HEIGHT by n of 0 .. 60");
        SomebodysLift x = Due.with(0, 0, 77, 2);
        due(x.top(0, 0), 220);
        due(x.top(0, 1), 60);
        Due.air(x, "down 3 t>4");
        due(x.top(0, 0), 200);
        due(x.top(0, 1), 50);
        Due.air(x, "down 3 l=0");
        due(x.top(0, 0), 100);
        due(x.top(0, 1), 0);
        // Lower at first than at last.
        Due.air(x, "down 3 t<3;up 3 t>2");
        due(x.up(0, 30), 70);
        due(x.top(0, 0), 220);
        due(x.top(0, 1), 60);
        Due.air(x, "down 3 t<3");
        due(x.top(0, 0), 130);
        due(x.top(0, 1), 60);
    }

    private static void topLeast() {
        Due.sentence("the least such n.");
        SomebodysLift x = Due.with(0, 0, 77, 0);
        due(x.top(0, 0), 100);
        due(x.top(0, 1), 0);
        x.pull(0, 20);
        due(x.top(0, 0), 400);
        due(x.top(0, 1), 15);
        x.height(399);
        due(x.top(0, 1), 1);
        x.height(400);
        due(x.top(0, 1), 0);
    }

    private static void topRefused() {
        Due.sentence("TOP: what 0 HEIGHT, 1 n. NONE.");
        SomebodysLift x = Due.with(0, 0, 77, 20);
        due(x.top(0, 0), 400);
        due(x.top(0, 1), 15);
        for (int what : new int[] {Due.MIN, -1, 2, Due.MAX}) {
            due(x.top(0, what), -1);
            due(x.top(1, what), -1);
        }
        for (int lift : new int[] {Due.MIN, -1, 1, 6, Due.MAX}) {
            due(x.top(lift, 0), -1);
        }
    }

    private static void arriving() {
        Due.sentence("ARRIVES at a MILE with a PACE: HEIGHT then (-5: OUT).");
        SomebodysLift x = new SomebodysLift();
        x.glide(1, 9);
        x.height(84);
        due(x.arrives(7, 9), 0);
        due(x.arrives(8, 9), -5);
        due(x.arrives(0, 9), 70);
        due(x.arrives(1, 1), 84);
        x.height(83);
        due(x.arrives(7, 9), -5);
        x.height(0);
        due(x.arrives(1, 9), 0);
        due(x.arrives(0, 1), -5);
        due(x.arrives(2, 1), -5);
    }

    private static void arrivesRefused() {
        Due.sentence("ARRIVES; -5. BAD: mile, pace.");
        SomebodysLift x = new SomebodysLift();
        due(x.arrives(0, 9), 100);
        due(x.arrives(99, 1), -5);
        for (int mile : new int[] {Due.MIN, -1, 100, Due.MAX}) {
            due(x.arrives(mile, 1), -2);
            due(x.arrives(mile, 0), -2);
        }
        for (int pace : new int[] {Due.MIN, -1, 0, 10, Due.MAX}) {
            due(x.arrives(0, pace), -2);
            due(x.arrives(99, pace), -2);
        }
    }

    private static void outed() {
        Due.sentence("to how many miles HEIGHT is enough (no more than all)");
        SomebodysLift x = new SomebodysLift();
        due(x.outed(9, 5), 9);
        due(x.outed(10, 5), 10);
        due(x.outed(11, 5), 10);
        due(x.outed(99, 5), 10);
        due(x.outed(0, 5), 0);
        x.height(400);
        due(x.outed(99, 1), 66);
        due(x.outed(66, 1), 66);
        due(x.outed(65, 1), 65);
        due(x.outed(99, 9), 28);
    }

    private static void outedOnTheWay() {
        Due.sentence("OUTED with a PACE on the way to a MILE");
        SomebodysLift x = new SomebodysLift();
        x.glide(10, 1);
        x.height(59);
        due(x.outed(20, 5), 5);
        due(x.outed(0, 5), 5);
        due(x.outed(7, 5), 3);
        x.height(60);
        due(x.outed(0, 5), 6);
        x.height(9);
        due(x.outed(0, 5), 0);
        x.height(0);
        due(x.outed(0, 1), 0);
        due(x.outed(99, 1), 0);
    }

    private static void outedRefused() {
        Due.sentence("OUTED. BAD: mile, pace.");
        SomebodysLift x = new SomebodysLift();
        due(x.outed(0, 9), 0);
        due(x.outed(99, 1), 16);
        for (int mile : new int[] {Due.MIN, -1, 100, Due.MAX}) {
            due(x.outed(mile, 1), -2);
            due(x.outed(mile, 0), -2);
        }
        for (int pace : new int[] {Due.MIN, -5, -1, 0, 10, Due.MAX}) {
            due(x.outed(0, pace), -2);
            due(x.outed(99, pace), -2);
        }
    }

    private static void reaching() {
        Due.sentence("REACH with a PACE: those LIFTS, as bits, at whose MILE it ARRIVES with SAFE or more.");
        SomebodysLift x = Due.with(0, 0, 10, 0);
        x.height(180);
        due(x.reach(5), 1);
        x.height(179);
        due(x.reach(5), 0);
        Due.air(x, "safe 0");
        x.height(100);
        due(x.reach(5), 1);
        x.height(99);
        due(x.reach(5), 0);
        Due.air(x, "safe 30");
        x.height(400);
        due(x.reach(5), 1);
        x.height(399);
        due(x.reach(5), 0);
        // At one's own MILE it is HEIGHT that counts.
        x = Due.with(0, 0, 0, 0);
        x.height(80);
        due(x.reach(9), 1);
        x.height(79);
        due(x.reach(1), 0);
    }

    private static void reachingAsBits() {
        Due.sentence("those LIFTS, as bits");
        SomebodysLift x = new SomebodysLift();
        due(x.reach(1), 0);
        x.height(400);
        for (int n = 0; n < 6; n++) {
            x.lift(0, 0, n == 4 ? 99 : n, 0);
        }
        due(x.reach(1), 1 + 2 + 4 + 8 + 32);
        x.height(100);
        due(x.reach(5), 1 + 2 + 4);
        due(x.reach(1), 1 + 2 + 4 + 8);
    }

    private static void reachRefused() {
        Due.sentence("REACH, as bits. BAD.");
        SomebodysLift x = Due.with(0, 0, 0, 0);
        due(x.reach(1), 1);
        due(x.reach(9), 1);
        for (int pace : new int[] {Due.MIN, -5, -1, 0, 10, Due.MAX}) {
            due(x.reach(pace), -2);
            due(new SomebodysLift().reach(pace), -2);
        }
    }

    private static void nextGreatest() {
        Due.sentence("of these that one in which CLIMB is greatest");
        SomebodysLift x = Due.with(0, 0, 2, 3);
        x.lift(0, 0, 1, 9);
        x.lift(0, 0, 99, 20);
        x.lift(0, 0, 1, 8);
        due(x.next(1), 1);
        x.height(85);
        due(x.next(1), -5);
        // Where all sink, too; and of those alone that are reached.
        x.height(100);
        Due.air(x, "down 12 l<9");
        due(x.next(1), 1);
        Due.air(x, "down 99 l=1;down 99 l=3");
        due(x.next(1), 0);
        due(x.next(9), 1);
    }

    private static void nextAsThen() {
        Due.sentence("in which CLIMB is greatest, as HEIGHT and MINUTE are then");
        SomebodysLift x = Due.with(0, 0, 0, 5);
        x.lift(3, 0, 10, 9);
        x.height(400);
        due(x.next(1), 1);
        x.enter(0);
        x.turn(9);
        due(x.told(0), 9);
        due(x.next(1), 1);
        x.turn(1);
        due(x.next(1), 0);
        due(x.next(2), 1);
        // By HEIGHT: 300 there, and 301.
        x = Due.with(0, 0, 0, 5);
        x.lift(0, 0, 10, 0);
        Due.air(x, "up 6 l=1&h<6");
        x.height(400);
        due(x.next(5), 0);
        x.height(399);
        due(x.next(5), 1);
    }

    private static void nextFirst() {
        Due.sentence("(of several the first; -5: none). LOWEST");
        SomebodysLift x = new SomebodysLift();
        due(x.next(1), -5);
        for (int n = 0; n < 6; n++) {
            x.lift(0, 0, 1, n < 2 ? 3 : 7);
        }
        due(x.next(1), 2);
        x.pull(5, 8);
        due(x.next(1), 5);
        x.pull(0, 8);
        due(x.next(1), 0);
        x.height(0);
        due(x.next(1), -5);
    }

    private static void nextRefused() {
        Due.sentence("NEXT; -5. BAD.");
        SomebodysLift x = Due.with(0, 0, 0, 0);
        due(x.next(1), 0);
        due(x.next(9), 0);
        for (int pace : new int[] {Due.MIN, -5, -1, 0, 10, Due.MAX}) {
            due(x.next(pace), -2);
            due(new SomebodysLift().next(pace), -2);
        }
    }

    private static void lowest() {
        Due.sentence("LOWEST of a LIFT with a PACE: the least HEIGHT with which it ARRIVES with SAFE or more");
        SomebodysLift x = Due.with(0, 0, 7, 0);
        due(x.lowest(0, 1), 42 + 80);
        due(x.lowest(0, 9), 98 + 80);
        Due.air(x, "safe 0");
        due(x.lowest(0, 9), 98);
        x.glide(7, 1);
        due(x.lowest(0, 9), 0);
        // What it is now does not matter.
        x.height(0);
        due(x.lowest(0, 1), 0);
        x.height(400);
        due(x.lowest(0, 1), 0);
    }

    private static void lowestAbove() {
        Due.sentence("(-5: it is above 400)");
        SomebodysLift x = Due.with(0, 0, 32, 0);
        x.lift(0, 0, 33, 0);
        due(x.lowest(0, 5), 400);
        due(x.lowest(1, 5), -5);
        Due.air(x, "safe 40;base 1");
        x.glide(1, 1);
        due(x.lowest(0, 1), -5);
        x.lift(0, 0, 1, 0);
        due(x.lowest(2, 1), 400);
        Due.air(x, "safe 41");
        due(x.lowest(2, 1), -5);
        Due.air(x, "safe 99");
        due(x.lowest(2, 1), -5);
    }

    private static void lowestRefused() {
        Due.sentence("LOWEST; -5. NONE; BAD: pace.");
        SomebodysLift x = Due.with(0, 0, 0, 0);
        for (int lift : new int[] {Due.MIN, -1, 1, 6, Due.MAX}) {
            due(x.lowest(lift, 1), -1);
            due(x.lowest(lift, 0), -1);
        }
        for (int pace : new int[] {Due.MIN, -5, -1, 0, 10, Due.MAX}) {
            due(x.lowest(0, pace), -2);
        }
    }
}
