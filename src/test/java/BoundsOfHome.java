/** The bounds of the ways home, and of flights told by hand: one test for each sentence that names one. */
final class BoundsOfHome {
    private BoundsOfHome() {
    }

    static void all() {
        byEnough();
        bySixtyMinutes();
        byOut();
        byAndItsHeight();
        byRefused();
        straight();
        straightNot();
        straightRefused();
        bestOfStraightAndBy();
        bestNone();
        bestOfSeveral();
        bestWhat();
        twoUnlike();
        twoFortyInTheFirst();
        twoFortyInTheSecond();
        twoEnoughInTheFirst();
        twoOfSeveral();
        twoNone();
        twoRefused();
        worthOfALift();
        worthOfNone();
        worthRefused();
        legsAreFour();
        legsAreSixtyMinutes();
        legsOfLifts();
        legsNoneThen();
        flownOut();
        flownEnough();
        flownWithoutRows();
        flownRefused();
    }

    private static void due(long got, long want) {
        Due.due(got, want);
    }

    /** HOME 5 miles off, SAFE 0, a LIFT here: with PACE 1 30 are enough, with PACE 5 50, with PACE 9 70. */
    private static SomebodysLift low(int pull) {
        SomebodysLift x = Due.with(0, 0, 0, pull, "safe 0");
        x.home(5);
        x.height(0);
        return x;
    }

    private static void byEnough() {
        Due.sentence("is IN it so long till its HEIGHT is enough to ARRIVE HOME with SAFE or more with that PACE");
        SomebodysLift x = low(3);
        due(x.by(0, 1, 0), 10 + 45);
        due(x.by(0, 5, 0), 17 + 25);
        due(x.by(0, 9, 0), 24 + 5);
        x.height(29);
        due(x.by(0, 1, 0), 1 + 45);
        x.height(30);
        due(x.by(0, 1, 0), 45);
        x.height(400);
        due(x.by(0, 1, 0), 45);
        Due.air(x, "safe 3");
        x.height(59);
        due(x.by(0, 1, 0), 1 + 45);
        x.height(60);
        due(x.by(0, 1, 0), 45);
        // BASE may be too low for it, or just high enough.
        Due.air(x, "safe 0;base 3");
        x.height(0);
        due(x.by(0, 1, 0), 10 + 45);
        due(x.by(0, 2, 0), -5);
        // HOME here: nothing but SAFE.
        Due.air(x, "safe 3");
        x.home(0);
        due(x.by(0, 9, 0), 10);
        due(x.by(0, 9, 1), 30);
    }

    private static void bySixtyMinutes() {
        Due.sentence("(60 MINUTES at most), and GLIDES HOME");
        SomebodysLift x = low(1);
        due(x.by(0, 5, 0), 50 + 25);
        due(x.by(0, 6, 0), 55 + 20);
        due(x.by(0, 7, 0), 60 + 15);
        due(x.by(0, 7, 1), 60);
        due(x.by(0, 8, 0), -5);
        due(x.by(0, 8, 1), -5);
        x.height(4);
        due(x.by(0, 8, 0), -5);
        x.height(5);
        due(x.by(0, 8, 0), 60 + 10);
        // Enough at first, though it sinks there.
        Due.air(x, "safe 0;down 9 l=0");
        x.height(65);
        due(x.by(0, 8, 0), 10);
        x.height(64);
        due(x.by(0, 8, 0), -5);
    }

    private static void byOut() {
        Due.sentence("how many MINUTES in all (-5: OUT, or not enough by then)");
        SomebodysLift x = Due.with(0, 0, 10, 20, "safe 0");
        x.home(10);
        due(x.by(0, 5, 0), 50);
        due(x.by(0, 5, 1), 0);
        due(x.by(0, 6, 0), -5);
        due(x.by(0, 6, 1), -5);
        x.height(99);
        due(x.by(0, 5, 0), -5);
        due(x.by(0, 4, 0), 60);
        x.height(60);
        due(x.by(0, 1, 0), 90);
        x.height(59);
        due(x.by(0, 1, 0), -5);
    }

    private static void byAndItsHeight() {
        Due.sentence("HEIGHT when it leaves.");
        SomebodysLift x = low(7);
        due(x.by(0, 1, 1), 35);
        x.height(30);
        due(x.by(0, 1, 1), 30);
        x.height(31);
        due(x.by(0, 1, 1), 31);
        // What it is behind the GLIDE there, not now.
        x = Due.with(0, 0, 5, 7, "safe 0");
        x.home(10);
        due(x.by(0, 1, 1), 70);
        due(x.by(0, 9, 1), 72);
        x.home(5);
        due(x.by(0, 9, 1), 30);
    }

    private static void byRefused() {
        Due.sentence("BY: what 0 MINUTES, 1 HEIGHT; -5. NONE; BAD: pace.");
        SomebodysLift x = low(3);
        for (int what : new int[] {Due.MIN, -1, 2, Due.MAX}) {
            due(x.by(0, 1, what), -1);
            due(x.by(0, 0, what), -1);
        }
        for (int lift : new int[] {Due.MIN, -1, 1, 6, Due.MAX}) {
            due(x.by(lift, 1, 0), -1);
            due(x.by(lift, 0, 0), -1);
        }
        for (int pace : new int[] {Due.MIN, -1, 0, 10, Due.MAX}) {
            due(x.by(0, pace, 0), -2);
            due(x.by(0, pace, 1), -2);
        }
    }

    private static void straight() {
        Due.sentence("STRAIGHT with a PACE: how many MINUTES it takes to GLIDE HOME");
        SomebodysLift x = new SomebodysLift();
        x.height(400);
        x.home(20);
        for (int pace = 1; pace <= 9; pace++) {
            due(x.straight(pace), 20 * (10 - pace));
        }
        x.home(0);
        due(x.straight(1), 0);
        x.glide(10, 1);
        due(x.straight(1), 90);
        due(x.straight(9), 10);
    }

    private static void straightNot() {
        Due.sentence("if it ARRIVES with SAFE or more (-5: not)");
        SomebodysLift x = new SomebodysLift();
        x.home(10);
        x.height(180);
        due(x.straight(5), 50);
        due(x.straight(6), -5);
        x.height(179);
        due(x.straight(5), -5);
        Due.air(x, "safe 0");
        x.height(100);
        due(x.straight(5), 50);
        x.height(99);
        due(x.straight(5), -5);
        x.home(0);
        x.height(0);
        due(x.straight(9), 0);
        Due.air(x, "safe 41");
        x.height(400);
        due(x.straight(9), -5);
        Due.air(x, "safe 40");
        due(x.straight(9), 0);
    }

    private static void straightRefused() {
        Due.sentence("STRAIGHT; -5. BAD.");
        SomebodysLift x = new SomebodysLift();
        due(x.straight(1), -5);
        for (int home = 0; home <= 60; home += 60) {
            x.home(home);
            for (int pace : new int[] {Due.MIN, -5, -1, 0, 10, Due.MAX}) {
                due(x.straight(pace), -2);
            }
        }
    }

    private static void bestOfStraightAndBy() {
        Due.sentence("BEST: of STRAIGHT, and BY of all LIFTS, with all PACES, that with the fewest MINUTES: "
            + "which LIFT (-1: STRAIGHT");
        SomebodysLift x = new SomebodysLift();
        x.home(5);
        x.height(110);
        due(x.best(0), -1);
        due(x.best(1), 1);
        due(x.best(2), 45);
        x.height(125);
        due(x.best(1), 4);
        due(x.best(2), 30);
        x.height(150);
        due(x.best(1), 9);
        due(x.best(2), 5);
        // By LIFTS: with PACE 1 45 and more, with PACE 9 5 and more.
        x.height(110);
        x.lift(0, 0, 0, 1);
        due(x.best(0), -1);
        x.pull(0, 2);
        due(x.best(0), 0);
        due(x.best(1), 9);
        due(x.best(2), 20 + 5);
        for (int n = 1; n < 6; n++) {
            x.lift(0, 0, 0, 2);
        }
        x.pull(5, 3);
        due(x.best(0), 5);
        due(x.best(1), 9);
        due(x.best(2), 14 + 5);
        // How many from now on, whatever MINUTE is.
        x.enter(0);
        x.turn(60);
        x.height(150);
        due(x.best(0), -1);
        due(x.best(1), 9);
        due(x.best(2), 5);
        x.height(110);
        due(x.best(0), 5);
        due(x.best(2), 14 + 5);
    }

    private static void bestNone() {
        Due.sentence("that with the fewest MINUTES: which LIFT (-1: STRAIGHT, -5: there is none)");
        SomebodysLift x = new SomebodysLift();
        for (int what = 0; what < 3; what++) {
            due(x.best(what), -5);
        }
        x.lift(0, 0, 0, 0);
        x.lift(0, 0, 99, 20);
        for (int what = 0; what < 3; what++) {
            due(x.best(what), -5);
        }
        // 60 miles and SAFE need 440 at least.
        x.height(400);
        due(x.best(0), -5);
        Due.air(x, "safe 4");
        due(x.best(0), -1);
        due(x.best(1), 1);
        due(x.best(2), 540);
    }

    private static void bestOfSeveral() {
        Due.sentence("(of several STRAIGHT, then the lesser number, then the lesser PACE)");
        SomebodysLift x = new SomebodysLift();
        // HOME here: 0 MINUTES with all of them.
        x.home(0);
        x.lift(0, 0, 0, 20);
        x.lift(0, 0, 0, 20);
        due(x.best(0), -1);
        due(x.best(1), 1);
        due(x.best(2), 0);
        // 10 less of HEIGHT: a MINUTE in either, with every PACE.
        x.height(70);
        due(x.best(0), 0);
        due(x.best(1), 1);
        due(x.best(2), 1);
        x.pull(0, 9);
        due(x.best(0), 1);
        due(x.best(1), 1);
        // The lesser number with a greater PACE ahead of the greater one with a lesser.
        SomebodysLift y = low(7);
        y.home(1);
        y.lift(4, 0, 0, 13);
        due(y.by(0, 8, 0), 2 + 2);
        due(y.by(0, 9, 0), 2 + 1);
        due(y.by(1, 8, 0), 1 + 2);
        due(y.by(1, 9, 0), -5);
        due(y.best(0), 0);
        due(y.best(1), 9);
        due(y.best(2), 3);
        // Of one LIFT the lesser PACE: each more of it takes 5 MINUTES more IN it, and 5 less over.
        SomebodysLift z = low(1);
        due(z.by(0, 1, 0), 75);
        due(z.by(0, 2, 0), 75);
        due(z.best(1), 1);
        due(z.best(2), 75);
    }

    private static void bestWhat() {
        Due.sentence("BEST: what 0 which, 1 the PACE, 2 how many (-5 each: there is none). -1001: NONE.");
        SomebodysLift x = new SomebodysLift();
        for (int what : new int[] {Due.MIN, -1, 3, Due.MAX}) {
            due(x.best(what), -1001);
        }
        for (int what = 0; what < 3; what++) {
            due(x.best(what), -5);
        }
        x.home(0);
        due(x.best(0), -1);
        for (int what : new int[] {Due.MIN, -1, 3, Due.MAX}) {
            due(x.best(what), -1001);
        }
    }

    // ---- by two lifts

    private static void twoUnlike() {
        Due.sentence("TWO with a PACE: as BY, but by two unlike LIFTS, one behind the other");
        SomebodysLift x = Due.with(0, 0, 0, 5);
        x.home(0);
        due(x.by(0, 1, 0), 0);
        due(x.two(1, 0), -5);
        due(x.two(1, 1), -5);
        x.lift(0, 0, 0, 5);
        due(x.two(1, 0), 1);
        due(x.two(1, 1), 0);
        // Of one KIND or of two, at one MILE or at two.
        x = Due.with(0, 0, 0, 5);
        x.lift(3, 0, 1, 5);
        x.home(0);
        due(x.two(1, 0), 1);
        due(x.two(1, 1), 2 * 9);
    }

    private static void twoFortyInTheFirst() {
        Due.sentence("(40 MINUTES at most), IN the second");
        // 5 miles with PACE 1 and SAFE: 40; the second one is at HOME, and stronger.
        SomebodysLift x = low(1);
        x.lift(0, 0, 5, 20);
        Due.air(x, "safe 1");
        due(x.two(1, 0), 1);
        due(x.two(1, 1), 40 + 45);
        due(x.two(2, 0), -5);
        x.height(4);
        due(x.two(2, 0), -5);
        x.height(5);
        due(x.two(2, 1), 40 + 40);
        Due.air(x, "safe 1;base 4");
        x.height(0);
        due(x.two(1, 1), 40 + 45);
        Due.air(x, "safe 1;base 3");
        due(x.two(1, 1), -5);
    }

    private static void twoFortyInTheSecond() {
        Due.sentence("IN the second till it is enough HOME (40 at most)");
        SomebodysLift x = Due.with(0, 0, 0, 0, "safe 1");
        x.lift(0, 0, 0, 1);
        x.home(5);
        x.height(10);
        due(x.two(1, 0), 1);
        due(x.two(1, 1), 30 + 45);
        due(x.two(3, 0), 1);
        due(x.two(3, 1), 40 + 35);
        // With 50 one would ARRIVE, but with less than SAFE.
        due(x.two(4, 0), -5);
        due(x.two(4, 1), -5);
        x.height(14);
        due(x.two(4, 1), -5);
        x.height(15);
        due(x.two(4, 1), 40 + 30);
        // BY has 60.
        x.height(10);
        due(x.by(1, 4, 0), 45 + 30);
    }

    private static void twoEnoughInTheFirst() {
        Due.sentence("IN the first so long till it is enough to ARRIVE at the second with SAFE or more");
        SomebodysLift x = Due.with(0, 0, 0, 4);
        x.lift(0, 0, 5, 10);
        x.home(10);
        // 110 are enough for the second, and 110 for HOME: 3 MINUTES, there with 82, 3 again.
        due(x.two(1, 0), 1);
        due(x.two(1, 1), 3 + 45 + 3 + 45);
        x.height(110);
        due(x.two(1, 1), 45 + 3 + 45);
        x.height(109);
        due(x.two(1, 1), 1 + 45 + 3 + 45);
        x.height(140);
        due(x.two(1, 1), 90);
        x.height(139);
        due(x.two(1, 1), 45 + 1 + 45);
    }

    private static void twoOfSeveral() {
        Due.sentence("10 times the first number, and the second one (of several the first; -5: none); how many.");
        SomebodysLift x = new SomebodysLift();
        x.home(0);
        for (int n = 0; n < 6; n++) {
            x.lift(0, 0, 0, 3);
        }
        due(x.two(1, 0), 1);
        due(x.two(1, 1), 0);
        // Where the strong one is the first it is 1 MINUTE instead of 7.
        x.height(60);
        due(x.two(1, 0), 1);
        due(x.two(1, 1), 7);
        x.pull(5, 20);
        due(x.two(1, 0), 50);
        due(x.two(1, 1), 1);
        x = new SomebodysLift();
        x.home(0);
        for (int n = 0; n < 6; n++) {
            x.lift(0, 0, n < 4 ? 1 : 0, 3);
        }
        due(x.two(1, 0), 45);
        due(x.two(1, 1), 0);
        // The greater number ahead of the lesser: 94 at the first, 88 at the second, 82 at HOME.
        x = Due.with(0, 0, 2, 5);
        x.lift(0, 0, 1, 0);
        x.home(3);
        due(x.two(1, 0), 10);
        due(x.two(1, 1), 9 + 9 + 0 + 9);
    }

    private static void twoNone() {
        Due.sentence("(of several the first; -5: none); how many. WORTH");
        SomebodysLift x = new SomebodysLift();
        due(x.two(1, 0), -5);
        due(x.two(1, 1), -5);
        x.lift(0, 0, 0, 20);
        due(x.two(1, 0), -5);
        due(x.two(1, 1), -5);
        x.lift(0, 0, 99, 20);
        due(x.two(1, 0), -5);
        due(x.two(1, 1), -5);
        // OUT on the way to the first.
        x = Due.with(0, 0, 17, 20);
        x.lift(0, 0, 17, 20);
        x.home(17);
        due(x.two(1, 0), -5);
        x.height(102);
        due(x.two(1, 0), 1);
        due(x.two(1, 1), 17 * 9 + 4);
        x.height(101);
        due(x.two(1, 1), -5);
        // OUT to the first, though the second is here, and so is HOME.
        x = Due.with(0, 0, 17, 20);
        x.lift(0, 0, 0, 1);
        x.home(0);
        due(x.two(1, 0), -5);
        due(x.two(1, 1), -5);
    }

    private static void twoRefused() {
        Due.sentence("TWO: what 0 which, 1 how many; -5. NONE; BAD: pace.");
        SomebodysLift x = Due.with(0, 0, 0, 3);
        x.lift(0, 0, 0, 3);
        for (int what : new int[] {Due.MIN, -1, 2, Due.MAX}) {
            due(x.two(1, what), -1);
            due(x.two(0, what), -1);
        }
        for (int pace : new int[] {Due.MIN, -1, 0, 10, Due.MAX}) {
            due(x.two(pace, 0), -2);
            due(x.two(pace, 1), -2);
        }
    }

    // ---- what a lift is worth

    private static void worthOfALift() {
        Due.sentence("WORTH of a LIFT: how many MINUTES BEST would be more, were there not that LIFT");
        SomebodysLift x = Due.with(0, 0, 0, 2);
        x.home(5);
        x.height(110);
        due(x.best(2), 25);
        due(x.worth(0), 20);
        x.lift(0, 0, 0, 3);
        due(x.worth(0), 0);
        due(x.worth(1), 25 - 19);
        x.pull(0, 3);
        due(x.worth(0), 0);
        due(x.worth(1), 0);
        x.height(150);
        due(x.worth(0), 0);
        // The others keep their numbers.
        Due.air(x, "up 9 l=1;down 3 l=0");
        x.height(110);
        due(x.worth(0), 0);
        due(x.worth(1), 45 - 9);
        due(x.count(0), 2);
    }

    private static void worthOfNone() {
        Due.sentence("(there is none then: 999, for either)");
        SomebodysLift x = Due.with(0, 0, 0, 20);
        x.home(0);
        x.height(60);
        due(x.best(2), 1);
        due(x.worth(0), 998);
        x.height(80);
        due(x.worth(0), 0);
        // None with it, none without.
        x.pull(0, 0);
        x.height(79);
        due(x.best(2), -5);
        due(x.worth(0), 0);
        // Two that do: neither is missed.
        x.pull(0, 1);
        x.lift(0, 0, 0, 1);
        due(x.best(2), 1);
        due(x.worth(0), 0);
        due(x.worth(1), 0);
        x.pull(1, 0);
        due(x.worth(0), 998);
        due(x.worth(1), 0);
    }

    private static void worthRefused() {
        Due.sentence("WORTH. NONE.");
        SomebodysLift x = new SomebodysLift();
        due(x.worth(0), -1);
        x.lift(0, 0, 0, 0);
        due(x.worth(0), 0);
        for (int lift : new int[] {Due.MIN, -5, -1, 1, 6, Due.MAX}) {
            due(x.worth(lift), -1);
        }
    }

    // ---- flights

    private static void legsAreFour() {
        Due.sentence("A row comes to the FLIGHT: how many there are");
        SomebodysLift x = Due.with(0, 0, 0, 1);
        x.home(0);
        for (int n = 1; n <= 4; n++) {
            due(x.leg(0, n), n);
            due(x.count(2), n);
            due(x.flown(1, 1), n * (n + 1) / 2);
        }
        due(x.leg(0, 5), -4);
        due(x.leg(0, 0), -4);
        due(x.count(2), 4);
        due(x.flown(1, 1), 10);
    }

    private static void legsAreSixtyMinutes() {
        Due.sentence("A FLIGHT told by hand: LIFTS, and MINUTES that one is IN them (0 .. 60; 4 rows at most).");
        SomebodysLift x = Due.with(0, 0, 0, 1);
        x.home(0);
        for (int n : new int[] {Due.MIN, -1, 61, Due.MAX}) {
            due(x.leg(0, n), -2);
        }
        due(x.count(2), 0);
        due(x.leg(0, 0), 1);
        due(x.flown(1, 1), 0);
        due(x.leg(0, 60), 2);
        due(x.flown(1, 1), 60);
        due(x.flown(1, 0), 160);
        due(x.leg(0, 60), 3);
        due(x.leg(0, 60), 4);
        due(x.flown(1, 1), 180);
        due(x.leg(0, 61), -2);
        due(x.leg(0, 60), -4);
    }

    private static void legsOfLifts() {
        Due.sentence("whatever the other is). NONE; BAD: n; FULL: 4.");
        SomebodysLift x = new SomebodysLift();
        due(x.leg(0, 1), -1);
        x.lift(0, 0, 0, 1);
        due(x.leg(0, 1), 1);
        for (int lift : new int[] {Due.MIN, -5, -2, 1, 6, Due.MAX}) {
            due(x.leg(lift, 1), -1);
            due(x.leg(lift, 61), -1);
        }
        due(x.count(2), 1);
        for (int n = 2; n <= 4; n++) {
            x.leg(0, n);
        }
        due(x.leg(1, 61), -1);
        due(x.leg(1, 1), -1);
        due(x.leg(0, -1), -2);
        due(x.leg(0, 1), -4);
    }

    private static void legsNoneThen() {
        Due.sentence("(lift -1: none then, 0, whatever the other is)");
        for (int other : new int[] {Due.MIN, -1, 0, 60, 61, Due.MAX}) {
            SomebodysLift x = Due.with(0, 0, 0, 1);
            due(x.leg(-1, other), 0);
            x.leg(0, 1);
            x.leg(0, 2);
            due(x.leg(-1, other), 0);
            due(x.count(2), 0);
            due(x.leg(0, 3), 1);
            x.home(0);
            due(x.flown(1, 1), 3);
            for (int n = 2; n <= 4; n++) {
                due(x.leg(0, 0), n);
            }
            due(x.leg(-1, other), 0);
            due(x.count(2), 0);
        }
        due(new SomebodysLift().leg(-1, 0), 0);
    }

    private static void flownOut() {
        Due.sentence("HEIGHT then (-5: OUT on the way); MINUTES in all.");
        SomebodysLift x = Due.with(0, 0, 10, 5);
        x.lift(0, 0, 17, 0);
        x.home(10);
        x.leg(0, 1);
        due(x.flown(5, 0), 5);
        due(x.flown(5, 1), 51);
        // OUT to the first, ...
        x.height(99);
        due(x.flown(5, 0), -5);
        due(x.flown(5, 1), -5);
        // ... to the second, ...
        x.height(164);
        x.leg(1, 60);
        due(x.flown(5, 0), -5);
        due(x.flown(5, 1), -5);
        // ... home.
        x.home(18);
        x.height(165);
        due(x.flown(5, 0), -5);
        due(x.flown(5, 1), -5);
        x.height(174);
        due(x.flown(5, 0), -5);
        x.height(175);
        due(x.flown(5, 0), 0);
        due(x.flown(5, 1), 50 + 1 + 35 + 60 + 5);
    }

    private static void flownEnough() {
        Due.sentence("FLOWN with a PACE: one GLIDES from LIFT to LIFT, is IN each so long, and GLIDES HOME");
        // SAFE does not matter, and all is as it is then: MINUTE, BASE.
        SomebodysLift x = Due.with(3, 0, 10, 5, "base 13;safe 99");
        x.home(10);
        x.leg(0, 30);
        due(x.flown(1, 0), 40 + 10 * 5 - 20 * 2);
        x.leg(0, 60);
        due(x.flown(1, 0), 0);
        x.leg(-1, 0);
        x.leg(0, 9);
        due(x.flown(1, 0), 85);
        x.leg(0, 2);
        due(x.flown(1, 0), 88);
        x.height(400);
        x.leg(-1, 0);
        x.leg(0, 5);
        due(x.flown(1, 0), 340);
    }

    private static void flownWithoutRows() {
        Due.sentence("and GLIDES HOME: HEIGHT then");
        SomebodysLift x = new SomebodysLift();
        due(x.flown(1, 0), -5);
        due(x.flown(1, 1), -5);
        x.home(10);
        due(x.flown(5, 0), 0);
        due(x.flown(5, 1), 50);
        due(x.flown(6, 0), -5);
        x.home(0);
        due(x.flown(9, 0), 100);
        due(x.flown(9, 1), 0);
    }

    private static void flownRefused() {
        Due.sentence("FLOWN: what 0 HEIGHT, 1 MINUTES; -5. NONE; BAD: pace.");
        SomebodysLift x = new SomebodysLift();
        x.home(0);
        for (int what : new int[] {Due.MIN, -1, 2, Due.MAX}) {
            due(x.flown(1, what), -1);
            due(x.flown(0, what), -1);
        }
        for (int pace : new int[] {Due.MIN, -1, 0, 10, Due.MAX}) {
            due(x.flown(pace, 0), -2);
            due(x.flown(pace, 1), -2);
        }
    }
}
