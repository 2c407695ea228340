/** The bounds of what is SEEN, of ODDS and MEAN, of the BOOK, of ACTS: one test for each sentence that names one. */
final class BoundsOfRows {
    private BoundsOfRows() {
    }

    static void all() {
        seenAreFive();
        seenFromTo();
        seenNoneThen();
        whoAsBits();
        whoJustSo();
        whoWithNoneSeen();
        whoAtTheEdges();
        oddsOfAHeight();
        oddsInLowestTerms();
        oddsOfNone();
        oddsAboveAndBelow();
        meanInLowestTerms();
        meanOfNone();
        meanRefused();
        bookOfEight();
        bookRows();
        bookFromTo();
        bookOfLifts();
        bookIsEmptyThen();
        lookedAtTheFirst();
        lookedAtNone();
        lookedAtEight();
        actsWrap();
        bodiesOfLift();
        bodiesOfStrongAndWeak();
        bodiesOfLate();
        bodiesOfCapped();
        bodiesOfWandering();
        bodiesOfTold();
        traceOfTheLatest();
        traceOfTwenty();
        traceNone();
        noTraceThen();
    }

    private static void due(long got, long want) {
        Due.due(got, want);
    }

    // ---- what is seen

    private static void seenAreFive() {
        Due.sentence("(-99 .. 99; 5 at most)");
        SomebodysLift x = new SomebodysLift();
        for (int n = 1; n <= 5; n++) {
            due(x.see(n), n);
            due(x.count(3), n);
        }
        due(x.see(6), -4);
        due(x.see(-99), -4);
        due(x.see(99), -4);
        due(x.count(3), 5);
    }

    private static void seenFromTo() {
        Due.sentence("What is SEEN comes: how many there are (n -100: none then, 0). BAD: n; FULL: 5.");
        SomebodysLift x = new SomebodysLift();
        for (int n : new int[] {Due.MIN, -101, 100, Due.MAX}) {
            due(x.see(n), -2);
        }
        due(x.count(3), 0);
        due(x.see(-99), 1);
        due(x.see(99), 2);
        due(x.see(0), 3);
        due(x.see(0), 4);
        due(x.see(0), 5);
        for (int n : new int[] {Due.MIN, -101, 100, Due.MAX}) {
            due(x.see(n), -2);
        }
        due(x.see(0), -4);
        due(x.count(3), 5);
    }

    private static void seenNoneThen() {
        Due.sentence("(n -100: none then, 0)");
        SomebodysLift x = Due.with(0, 0, 0, 3);
        due(x.see(-100), 0);
        due(x.see(5), 1);
        due(x.who(), 0);
        due(x.see(-100), 0);
        due(x.count(3), 0);
        due(x.who(), 1);
        for (int n = 1; n <= 5; n++) {
            due(x.see(3), n);
        }
        due(x.see(-100), 0);
        due(x.count(3), 0);
        due(x.see(3), 1);
    }

    private static void whoAsBits() {
        Due.sentence("WHO: those LIFTS, as bits");
        SomebodysLift x = new SomebodysLift();
        for (int n = 0; n < 6; n++) {
            x.lift(0, 0, 90, n % 3);
        }
        x.see(0);
        due(x.who(), 1 + 8);
        x.see(-100);
        x.see(1);
        due(x.who(), 2 + 16);
        x.see(-100);
        x.see(2);
        due(x.who(), 4 + 32);
        x.see(-100);
        x.see(3);
        due(x.who(), 0);
        x.see(-100);
        due(x.who(), 63);
    }

    private static void whoJustSo() {
        Due.sentence("IN which, were one there now, it would be just so");
        SomebodysLift x = Due.with(6, 0, 50, 1);
        x.lift(0, 0, 0, 1);
        for (int part = 0; part < 4; part++) {
            x.row(0, part, part == 3 ? 0 : part + 1);
        }
        int[] climbs = {2, 3, 4, 1, 2};
        for (int n = 0; n < 5; n++) {
            due(x.see(climbs[n]), n + 1);
            due(x.who(), 1);
        }
        // By the first of them, by the last.
        for (int other = 0; other < 5; other++) {
            x.see(-100);
            for (int n = 0; n < 5; n++) {
                x.see(climbs[n] + (n == other ? 1 : 0));
            }
            due(x.who(), 0);
        }
        // It goes on from now.
        x.see(-100);
        x.enter(1);
        x.turn(2);
        x.see(4);
        x.see(1);
        x.see(2);
        due(x.who(), 1);
        x.turn(1);
        due(x.who(), 0);
    }

    private static void whoWithNoneSeen() {
        Due.sentence("WHO, as bits.");
        SomebodysLift x = new SomebodysLift();
        due(x.who(), 0);
        x.see(5);
        due(x.who(), 0);
        x.see(-100);
        for (int n = 0; n < 6; n++) {
            x.lift(n, 0, n, n);
            due(x.who(), (1 << n + 1) - 1);
        }
    }

    private static void whoAtTheEdges() {
        Due.sentence("by how much HEIGHT was more behind each of some MINUTES, one behind the other");
        SomebodysLift x = Due.with(0, 0, 50, 7);
        x.height(390);
        x.see(7);
        x.see(3);
        x.see(0);
        due(x.who(), 1);
        Due.air(x, "down 27 l=0");
        x.height(30);
        x.see(-100);
        x.see(-20);
        x.see(-10);
        x.see(0);
        due(x.who(), 1);
        x.see(-20);
        due(x.who(), 0);
    }

    // ---- odds and mean

    private static void oddsOfAHeight() {
        Due.sentence("ODDS of a HEIGHT h (0 .. 400) and n (0 .. 60): if it is any LIFT, each alike likely: "
            + "how likely UP is h or more");
        SomebodysLift x = Due.with(0, 0, 50, 1);
        x.lift(0, 0, 0, 0);
        due(x.odds(160, 60, 0), 1);
        due(x.odds(160, 60, 1), 2);
        due(x.odds(161, 60, 0), 0);
        due(x.odds(100, 60, 0), 1);
        due(x.odds(100, 60, 1), 1);
        due(x.odds(101, 60, 1), 2);
        due(x.odds(0, 0, 0), 1);
        due(x.odds(0, 0, 1), 1);
        due(x.odds(100, 0, 0), 1);
        due(x.odds(101, 0, 0), 0);
        x.height(399);
        due(x.odds(400, 1, 0), 1);
        due(x.odds(400, 1, 1), 2);
        due(x.odds(400, 0, 0), 0);
        for (int h : new int[] {Due.MIN, -1, 401, Due.MAX}) {
            due(x.odds(h, 0, 0), Due.NO);
        }
        for (int n : new int[] {Due.MIN, -1, 61, Due.MAX}) {
            due(x.odds(0, n, 0), Due.NO);
        }
    }

    private static void oddsInLowestTerms() {
        Due.sentence("how likely UP is h or more: a fraction in lowest terms");
        int[][] lowest = {{0, 1}, {1, 6}, {1, 3}, {1, 2}, {2, 3}, {5, 6}, {1, 1}};
        SomebodysLift x = new SomebodysLift();
        for (int n = 0; n < 6; n++) {
            x.lift(0, 0, 0, 6 - n);
        }
        for (int high = 0; high <= 6; high++) {
            due(x.odds(107 - high, 1, 0), lowest[high][0]);
            due(x.odds(107 - high, 1, 1), lowest[high][1]);
        }
        x = new SomebodysLift();
        for (int n = 0; n < 4; n++) {
            x.lift(0, 0, 0, 4 - n);
        }
        int[][] ofFour = {{0, 1}, {1, 4}, {1, 2}, {3, 4}, {1, 1}};
        for (int high = 0; high <= 4; high++) {
            due(x.odds(105 - high, 1, 0), ofFour[high][0]);
            due(x.odds(105 - high, 1, 1), ofFour[high][1]);
        }
    }

    private static void oddsOfNone() {
        Due.sentence("a fraction in lowest terms (NO: there are none). MEAN");
        SomebodysLift x = new SomebodysLift();
        for (int part = 0; part < 2; part++) {
            due(x.odds(0, 0, part), Due.NO);
            due(x.odds(400, 60, part), Due.NO);
        }
        x.lift(0, 0, 0, 0);
        due(x.odds(400, 60, 0), 0);
        due(x.odds(400, 60, 1), 1);
    }

    private static void oddsAboveAndBelow() {
        Due.sentence("ODDS; part 0 above, 1 below the line. NO.");
        SomebodysLift x = Due.with(0, 0, 0, 0);
        for (int part : new int[] {Due.MIN, -1, 2, Due.MAX}) {
            due(x.odds(0, 0, part), Due.NO);
            due(x.mean(0, part), Due.NO);
        }
        due(x.odds(101, 0, 0), 0);
        due(x.odds(101, 0, 1), 1);
    }

    private static void meanInLowestTerms() {
        Due.sentence("MEAN of n (0 .. 60): UP of all LIFTS, together, by how many they are: a fraction in lowest terms");
        SomebodysLift x = Due.with(0, 0, 0, 0);
        due(x.mean(0, 0), 100);
        due(x.mean(0, 1), 1);
        due(x.mean(60, 0), 100);
        x.lift(0, 0, 0, 1);
        due(x.mean(1, 0), 201);
        due(x.mean(1, 1), 2);
        due(x.mean(2, 0), 101);
        due(x.mean(2, 1), 1);
        x.lift(0, 0, 0, 1);
        x.lift(0, 0, 0, 0);
        x.lift(0, 0, 0, 0);
        x.lift(0, 0, 0, 1);
        int[][] lowest = {{100, 1}, {201, 2}, {101, 1}, {203, 2}};
        for (int n = 0; n < 4; n++) {
            due(x.mean(n, 0), lowest[n][0]);
            due(x.mean(n, 1), lowest[n][1]);
        }
        x.pull(5, 0);
        // 602 by 6, 604 by 6, 606 by 6.
        due(x.mean(1, 0), 301);
        due(x.mean(1, 1), 3);
        due(x.mean(2, 0), 302);
        due(x.mean(2, 1), 3);
        due(x.mean(3, 0), 101);
        due(x.mean(3, 1), 1);
        x.pull(1, 2);
        due(x.mean(1, 0), 603 / 3);
        due(x.mean(1, 1), 2);
        x.pull(2, 3);
        due(x.mean(1, 0), 605);
        due(x.mean(1, 1), 6);
        // All at the ground.
        x.height(0);
        due(x.mean(0, 0), 0);
        due(x.mean(0, 1), 1);
    }

    private static void meanOfNone() {
        Due.sentence("(NO likewise)");
        SomebodysLift x = new SomebodysLift();
        for (int part = 0; part < 2; part++) {
            due(x.mean(0, part), Due.NO);
            due(x.mean(60, part), Due.NO);
        }
        x.lift(0, 0, 0, 20);
        due(x.mean(60, 0), 400);
        due(x.mean(60, 1), 1);
    }

    private static void meanRefused() {
        Due.sentence("MEAN; part likewise. NO.");
        SomebodysLift x = Due.with(0, 0, 0, 1);
        due(x.mean(60, 0), 160);
        due(x.mean(60, 1), 1);
        for (int n : new int[] {Due.MIN, -1, 61, Due.MAX}) {
            due(x.mean(n, 0), Due.NO);
            due(x.mean(n, 1), Due.NO);
        }
        for (int part : new int[] {Due.MIN, -1, 2, Due.MAX}) {
            due(x.mean(0, part), Due.NO);
        }
    }

    // ---- the book

    private static void bookOfEight() {
        Due.sentence("A BOOK told by hand: LIFTS, CLIMBS (-99 .. 99; 8 at most)");
        SomebodysLift x = Due.with(0, 0, 0, 5);
        for (int n = 1; n <= 8; n++) {
            due(x.book(0, n < 8 ? 5 : 6), n);
            due(x.count(4), n);
            due(x.looked(), n < 8 ? -5 : 7);
        }
        due(x.book(0, 5), -4);
        due(x.book(0, 6), -4);
        due(x.count(4), 8);
        due(x.looked(), 7);
    }

    private static void bookRows() {
        Due.sentence("A row comes to the BOOK: how many there are");
        SomebodysLift x = Due.with(0, 0, 0, 5);
        x.lift(0, 0, 0, 6);
        for (int n = 1; n <= 8; n++) {
            due(x.book(n % 2, n % 2 == 0 ? 5 : 6), n);
        }
        due(x.looked(), -5);
        x.pull(0, 4);
        due(x.looked(), 1);
        x.pull(1, 4);
        due(x.looked(), 0);
    }

    private static void bookFromTo() {
        Due.sentence("LIFTS, CLIMBS (-99 .. 99;");
        SomebodysLift x = Due.with(0, 0, 0, 0);
        for (int climb : new int[] {Due.MIN, -100, 100, Due.MAX}) {
            due(x.book(0, climb), -2);
        }
        due(x.count(4), 0);
        Due.air(x, "up 99 l=0");
        due(x.book(0, 99), 1);
        due(x.looked(), -5);
        Due.air(x, "down 99 l=0");
        due(x.looked(), 0);
        due(x.book(-1, 0), 0);
        due(x.book(0, -99), 1);
        due(x.looked(), -5);
        // A CLIMB may be more than can be told.
        x.pull(0, 20);
        Due.air(x, "up 80 l=0");
        x.book(-1, 0);
        due(x.book(0, 99), 1);
        due(x.looked(), 0);
    }

    private static void bookOfLifts() {
        Due.sentence("whatever the other is). NONE; BAD: climb; FULL: 8.");
        SomebodysLift x = new SomebodysLift();
        due(x.book(0, 1), -1);
        x.lift(0, 0, 0, 1);
        due(x.book(0, 1), 1);
        for (int lift : new int[] {Due.MIN, -5, -2, 1, 6, Due.MAX}) {
            due(x.book(lift, 1), -1);
            due(x.book(lift, 100), -1);
        }
        due(x.count(4), 1);
        for (int n = 2; n <= 8; n++) {
            x.book(0, 1);
        }
        due(x.book(1, 100), -1);
        due(x.book(1, 1), -1);
        due(x.book(0, 100), -2);
        due(x.book(0, -100), -2);
        due(x.book(0, 1), -4);
    }

    private static void bookIsEmptyThen() {
        Due.sentence("(lift -1: it is empty then, 0, whatever the other is)");
        for (int other : new int[] {Due.MIN, -100, -1, 0, 99, 100, Due.MAX}) {
            SomebodysLift x = Due.with(0, 0, 0, 1);
            due(x.book(-1, other), 0);
            x.book(0, 1);
            x.book(0, 2);
            due(x.looked(), 1);
            due(x.book(-1, other), 0);
            due(x.count(4), 0);
            due(x.looked(), -5);
            for (int n = 1; n <= 8; n++) {
                due(x.book(0, 1), n);
            }
            due(x.book(-1, other), 0);
            due(x.count(4), 0);
        }
        due(new SomebodysLift().book(-1, 0), 0);
    }

    private static void lookedAtTheFirst() {
        Due.sentence("LOOKED at: the number of the first of these rows by which CLIMB, "
            + "as HEIGHT and MINUTE are now, is otherwise");
        SomebodysLift x = Due.with(0, 0, 0, 5);
        x.lift(3, 0, 99, 5);
        x.book(0, 5);
        x.book(1, 5);
        x.book(0, 4);
        x.book(1, 4);
        due(x.looked(), 2);
        x.pull(1, 4);
        due(x.looked(), 1);
        x.pull(0, 4);
        due(x.looked(), 0);
        x.pull(0, 5);
        x.pull(1, 5);
        // As it is now, where one is or not.
        Due.later(x, 0, 99, 100);
        due(x.looked(), 2);
        x.turn(1);
        due(x.looked(), 1);
        Due.air(x, "up 1 h>7");
        due(x.looked(), 1);
        x.height(400);
        due(x.looked(), 0);
    }

    private static void lookedAtNone() {
        Due.sentence("is otherwise (-5: none)");
        SomebodysLift x = new SomebodysLift();
        due(x.looked(), -5);
        x.lift(0, 0, 0, 5);
        due(x.looked(), -5);
        for (int n = 0; n < 8; n++) {
            x.book(0, 5);
            due(x.looked(), -5);
        }
        x.pull(0, 6);
        due(x.looked(), 0);
        x.book(-1, 0);
        due(x.looked(), -5);
    }

    private static void lookedAtEight() {
        Due.sentence("LOOKED at; -5.");
        SomebodysLift x = Due.with(0, 0, 0, 5);
        for (int n = 0; n < 8; n++) {
            due(x.looked(), -5);
            x.book(0, 5);
        }
        due(x.looked(), -5);
        // Each of the eight can be the first.
        for (int other = 0; other < 8; other++) {
            x.book(-1, 0);
            for (int n = 0; n < 8; n++) {
                x.book(0, n < other ? 5 : 4);
            }
            due(x.looked(), other);
        }
    }

    // ---- acts

    /** A LIFT with a number, all ahead of it being of another KIND. */
    private static SomebodysLift numbered(int number, int kind, int v) {
        SomebodysLift x = new SomebodysLift();
        for (int n = 0; n < number; n++) {
            x.lift(kind == 0 ? 1 : 0, 9, 0, 0);
        }
        x.lift(kind, v, 0, 0);
        return x;
    }

    private static void act(SomebodysLift x, int lift, int act, int n, int want, int... bodies) {
        due(x.act(lift, act, n), want);
        due(x.count(6), bodies.length);
        for (int i = 0; i < bodies.length; i++) {
            due(x.trace(i), bodies[i]);
        }
        due(x.trace(bodies.length), -1);
    }

    private static void actsWrap() {
        Due.sentence("ACTS of a LIFT with x (wrapping)");
        act(numbered(5, 0, 0), 5, 0, Due.MAX, Due.MIN + 4, 10);
        act(numbered(0, 0, 1), 0, 1, Due.MIN, Due.MAX, 11, 10);
        act(numbered(0, 0, 0), 0, 2, 0x40000000, Due.MIN, 12, 11, 10);
        act(numbered(0, 0, 0), 0, 2, Due.MIN, 0, 12, 11, 10);
        act(numbered(0, 2, 0), 0, 0, Due.MAX, Due.MAX - 2, 30, 10);
        act(numbered(0, 2, 0), 0, 0, Due.MIN, Due.MIN, 30, 10);
        act(numbered(0, 3, 0), 0, 2, 0x40000000, Due.MIN + 1, 40, 12, 11, 10, 11, 10);
        act(numbered(0, 4, 0), 0, 0, Due.MIN, Due.MIN, 50, 10);
        act(numbered(0, 4, 0), 0, 1, Due.MAX, Due.MIN ^ 6, 51, 20, 11, 50, 10);
        act(numbered(1, 5, 0), 1, 2, Due.MIN, (Due.MAX * 3 + 1) * 2, 60, 12, 11, 30, 10);
        act(numbered(1, 6, 0), 1, 1, Due.MAX, Due.MIN + 3, 70, 11, 71, 10, 10);
    }

    private static void bodiesOfLift() {
        Due.sentence("BODIES: LIFT: 10 turns: x + i. 11 climbs: turns(x) - v. 12 tells: climbs(x) * 2.");
        SomebodysLift x = numbered(3, 0, 7);
        act(x, 3, 0, 100, 103, 10);
        act(x, 3, 1, 100, 96, 11, 10);
        act(x, 3, 2, 100, 192, 12, 11, 10);
    }

    private static void bodiesOfStrongAndWeak() {
        Due.sentence("STRONG: 20 climbs: super.climbs(x) ^ 6. WEAK: 30 turns: super.turns(x * 3).");
        SomebodysLift x = numbered(3, 1, 7);
        act(x, 3, 0, 100, 103, 10);
        act(x, 3, 1, 100, 96 ^ 6, 20, 11, 10);
        act(x, 3, 2, 100, (96 ^ 6) * 2, 12, 20, 11, 10);
        act(x, 3, 1, 9, 3, 20, 11, 10);
        act(x, 3, 1, 3, -1 ^ 6, 20, 11, 10);
        x = numbered(3, 2, 7);
        act(x, 3, 0, 100, 303, 30, 10);
        act(x, 3, 1, 100, 296, 11, 30, 10);
        act(x, 3, 2, 100, 592, 12, 11, 30, 10);
    }

    private static void bodiesOfLate() {
        Due.sentence("LATE: 40 tells: super.tells(x) + climbs(1).");
        SomebodysLift x = numbered(3, 3, 7);
        act(x, 3, 0, 100, 103, 10);
        act(x, 3, 1, 100, 96, 11, 10);
        act(x, 3, 2, 100, 192 + 1 + 3 - 7, 40, 12, 11, 10, 11, 10);
    }

    private static void bodiesOfCapped() {
        Due.sentence("CAPPED: 50 turns: -super.turns(x). 51 climbs: super.climbs(x + 1).");
        SomebodysLift x = numbered(3, 4, 7);
        act(x, 3, 0, 100, -103, 50, 10);
        act(x, 3, 1, 100, -104 - 7 ^ 6, 51, 20, 11, 50, 10);
        act(x, 3, 2, 100, (-104 - 7 ^ 6) * 2, 12, 51, 20, 11, 50, 10);
    }

    private static void bodiesOfWandering() {
        Due.sentence("WANDERING: 60 tells: super.tells(x - i).");
        SomebodysLift x = numbered(3, 5, 7);
        act(x, 3, 0, 100, 303, 30, 10);
        act(x, 3, 1, 100, 296, 11, 30, 10);
        act(x, 3, 2, 100, (97 * 3 + 3 - 7) * 2, 60, 12, 11, 30, 10);
    }

    private static void bodiesOfTold() {
        Due.sentence("TOLD: 70 climbs: super.climbs(x) + super.turns(2). 71 turns: super.turns(x) ^ v.");
        SomebodysLift x = numbered(3, 6, 7);
        act(x, 3, 0, 100, 103 ^ 7, 71, 10);
        act(x, 3, 1, 100, (103 ^ 7) - 7 + 5, 70, 11, 71, 10, 10);
        act(x, 3, 2, 100, ((103 ^ 7) - 7 + 5) * 2 + (4 ^ 7) - 7 + 5,
            40, 12, 70, 11, 71, 10, 10, 70, 11, 71, 10, 10);
    }

    private static void traceOfTheLatest() {
        Due.sentence("THE TRACE: the numbers of the bodies that ran in the latest act(), as they began");
        SomebodysLift x = numbered(0, 6, 0);
        due(x.count(6), 0);
        due(x.trace(0), -1);
        x.act(0, 2, 0);
        due(x.count(6), 12);
        act(x, 0, 0, 0, 0, 71, 10);
        due(x.trace(3), -1);
        due(x.trace(11), -1);
        // Calls that are no act leave it.
        x.up(0, 9);
        x.lift(0, 0, 0, 0);
        x.image();
        x.undo();
        due(x.count(6), 2);
        due(x.trace(0), 71);
        due(x.trace(1), 10);
    }

    private static void traceOfTwenty() {
        Due.sentence("the first 20 are kept.");
        // No act runs more than 12: all of them are kept.
        SomebodysLift x = numbered(0, 6, 0);
        x.act(0, 2, 0);
        int[] bodies = {40, 12, 70, 11, 71, 10, 10, 70, 11, 71, 10, 10};
        for (int i = 0; i < 12; i++) {
            due(x.trace(i), bodies[i]);
        }
        for (int i = 12; i <= 21; i++) {
            due(x.trace(i), -1);
        }
    }

    private static void traceNone() {
        Due.sentence("THE TRACE's i-th body. NONE.");
        SomebodysLift x = numbered(0, 0, 0);
        due(x.trace(0), -1);
        x.act(0, 1, 0);
        for (int i : new int[] {Due.MIN, -1, 2, 19, 20, 21, Due.MAX}) {
            due(x.trace(i), -1);
        }
        due(x.trace(0), 11);
        due(x.trace(1), 10);
    }

    private static void noTraceThen() {
        Due.sentence("0, and no TRACE then: no such LIFT, act.");
        SomebodysLift x = numbered(0, 0, 0);
        for (int lift : new int[] {Due.MIN, -5, -1, 1, 6, Due.MAX}) {
            act(x, 0, 0, 9, 9, 10);
            act(x, lift, 0, 9, 0);
        }
        for (int wrong : new int[] {Due.MIN, -1, 3, 10, Due.MAX}) {
            act(x, 0, 2, 9, 18, 12, 11, 10);
            act(x, 0, wrong, 9, 0);
            act(x, 7, wrong, 9, 0);
        }
        act(new SomebodysLift(), 0, 0, 9, 0);
    }
}
