/** For each promise of the document: ordinary calls, the edges that it names, wrong numbers. */
public final class PromisesTest {
    private static final int MIN = Integer.MIN_VALUE, MAX = Integer.MAX_VALUE;
    private static final long NO = Long.MIN_VALUE;
    private static int wrong = 0;
    private static int promise = 0;
    private static int rows = 0;

    private static void due(long got, long want) {
        rows++;
        if (got != want) {
            wrong++;
            String line = new Throwable().getStackTrace()[1].toString();
            System.out.println("promise " + promise + ": " + line + " answered " + got + ", due is " + want);
        }
    }

    private static SomebodysLift begin(int number) {
        promise = number;
        return new SomebodysLift();
    }

    private static int air(SomebodysLift x, String text) {
        for (int i = 0; i < text.length(); i++) {
            x.feed(text.charAt(i));
        }
        return x.air();
    }

    /** What an AIR of one clause, up 1 E, brings to a lift with PULL 5 there. */
    private static boolean holds(String e, int kind, int v, int mile, int height, int minutes) {
        SomebodysLift x = new SomebodysLift();
        x.lift(0, 0, 0, 0);
        x.lift(kind, v, mile, 5);
        while (minutes > 0) {
            x.enter(0);
            x.turn(Math.min(minutes, 60));
            minutes -= 60;
        }
        x.height(height);
        if (air(x, "up 1 " + e) != 0) {
            due(-1, 0);
        }
        return x.of(1, 4) == 6;
    }

    private static void everywhereWrong(SomebodysLift x) {
        for (int n : new int[] {MIN, MIN + 1, -1000000, -2, 6, 7, 1000000, MAX - 1, MAX}) {
            due(x.lift(n == 6 ? 7 : n, 0, 0, 0), -1);
            due(x.of(n, 0), -1001);
            due(x.pull(n, 0), -1);
            due(x.row(n, 0, 0), -1);
            due(x.enter(n), -1001);
            due(x.up(n, 0), -1);
            due(x.top(n, 0), -1);
            due(x.lowest(n, 1), -1);
            due(x.by(n, 1, 0), -1);
            due(x.worth(n), -1);
            due(x.leg(n, 0), -1);
            due(x.book(n, 0), -1);
            due(x.judge(n, 0), -1);
            due(x.act(n, 0, 0), 0);
            due(x.tape(n, 0, 0), -1);
            due(x.item(n, 0, 0), -1);
            due(x.read(n, 0), NO);
            due(x.shift(n, 0, 0, 0, 0), -1);
            due(x.shift(0, 0, n, 0, 0), -1);
        }
    }

    // ---- lifts, airs, the glider

    private static void aNewObject() {
        SomebodysLift x = begin(1);
        for (int what = 0; what < 7; what++) {
            due(x.count(what), 0);
        }
        due(x.told(0), 0);
        due(x.told(1), 0);
        due(x.told(2), 100);
        due(x.told(3), -5);
        due(x.told(4), 60);
        due(x.told(5), 400);
        due(x.told(6), 80);
        due(x.undo(), -3);
        due(x.trace(0), -1);
        due(x.read(0, 0), NO);
        due(SomebodysLift.NONE, -1);
        due(SomebodysLift.BAD, -2);
        due(SomebodysLift.STATE, -3);
        due(SomebodysLift.FULL, -4);
        due(SomebodysLift.NO, NO);
        everywhereWrong(x);
        // A second object has nothing of the first.
        x.lift(0, 0, 0, 0);
        due(new SomebodysLift().count(0), 0);
    }

    private static void lift() {
        SomebodysLift x = begin(2);
        due(x.lift(0, 0, 0, 0), 0);
        due(x.lift(6, 9, 99, 20), 1);
        due(x.lift(-1, 10, 100, 21), -1);
        due(x.lift(7, 0, 0, 0), -1);
        due(x.lift(0, -1, 0, 0), -2);
        due(x.lift(0, 10, 0, 0), -2);
        due(x.lift(0, 0, -1, 0), -2);
        due(x.lift(0, 0, 100, 0), -2);
        due(x.lift(0, 0, 0, -1), -2);
        due(x.lift(0, 0, 0, 21), -2);
        due(x.count(0), 2);
        for (int i = 2; i < 6; i++) {
            due(x.lift(i, i, i, i), i);
        }
        due(x.lift(0, 0, 0, 0), -4);
        due(x.lift(7, 0, 0, 0), -1);
        due(x.lift(0, 10, 0, 0), -2);
        due(x.count(0), 6);
        everywhereWrong(x);
    }

    private static void of() {
        SomebodysLift x = begin(3);
        x.lift(1, 7, 30, 8);
        due(x.of(0, 0), 1);
        due(x.of(0, 1), 7);
        due(x.of(0, 2), 30);
        due(x.of(0, 3), 8);
        due(x.of(0, 4), 8);
        due(x.of(0, 5), 11);
        due(x.of(0, -1), -1001);
        due(x.of(0, 6), -1001);
        due(x.of(1, 0), -1001);
        due(x.of(-1, 0), -1001);
        air(x, "down 13 h<3;up 20 t>9");
        due(x.of(0, 4), -5);
        due(x.of(0, 5), -2);
        x.height(150);
        due(x.of(0, 4), 8);
    }

    private static void climbOfKinds() {
        SomebodysLift x = begin(3);
        x.lift(0, 9, 0, 7);
        x.lift(1, 9, 0, 7);
        x.lift(2, 9, 0, 7);
        x.lift(3, 9, 0, 7);
        x.lift(4, 5, 0, 7);
        x.lift(5, 8, 0, 7);
        int[] first = {7, 11, 3, 7, 9, -1};
        for (int i = 0; i < 6; i++) {
            due(x.of(i, 5), first[i]);
        }
        x.height(200);
        due(x.of(4, 5), 9);
        x.height(201);
        due(x.of(4, 5), 0);
        x.enter(0);
        x.turn(9);
        due(x.of(5, 5), 3);
        x.turn(1);
        due(x.of(5, 5), -1);
        x.turn(60);
        x.turn(29);
        due(x.of(3, 5), 7);
        x.turn(1);
        due(x.of(3, 5), -2);
        due(x.of(3, 4), 7);
        // Half of -5 is -2.
        air(x, "down 12 l<9");
        due(x.of(2, 4), -5);
        due(x.of(2, 5), -2);
        x.turn(1);
        due(x.of(5, 5), -2);
        due(x.of(1, 5), -1);
    }

    private static void pull() {
        SomebodysLift x = begin(4);
        x.lift(0, 0, 0, 8);
        due(x.pull(0, 20), 8);
        due(x.pull(0, 0), 20);
        due(x.of(0, 4), 0);
        due(x.pull(0, -1), -2);
        due(x.pull(0, 21), -2);
        due(x.pull(1, 0), -1);
        due(x.pull(1, 21), -1);
        due(x.of(0, 3), 0);
    }

    private static void row() {
        SomebodysLift x = begin(5);
        x.lift(6, 0, 0, 1);
        x.lift(3, 0, 0, 1);
        due(x.row(0, 0, 9), 0);
        due(x.row(0, 3, 4), 0);
        due(x.row(0, 3, 2), 4);
        due(x.row(0, 4, 0), -1);
        due(x.row(0, -1, 0), -1);
        due(x.row(0, 0, 10), -2);
        due(x.row(0, 0, -1), -2);
        due(x.row(1, 0, 0), -3);
        due(x.row(1, 0, 10), -2);
        due(x.row(1, 4, 10), -1);
        due(x.of(0, 5), 10);
        x.enter(0);
        x.turn(3);
        due(x.of(0, 5), 3);
        due(x.of(1, 5), 1);
        x.turn(60);
        x.turn(37);
        due(x.told(0), 100);
        due(x.of(0, 5), 7);
    }

    private static void feed() {
        SomebodysLift x = begin(6);
        due(x.feed(-1), -2);
        due(x.feed(128), -2);
        due(x.feed(0), 1);
        due(x.feed(127), 2);
        for (int i = 3; i <= 100; i++) {
            due(x.feed('u'), i);
        }
        due(x.feed('u'), -4);
        due(x.feed(128), -2);
        due(x.count(5), 100);
    }

    private static void airs() {
        SomebodysLift x = begin(7);
        x.lift(0, 0, 0, 5);
        due(air(x, "up 4 l=0;down 1 v<9;up 10 v>0"), 0);
        due(x.of(0, 4), 8);
        due(x.count(5), 0);
        due(x.count(1), 1);
        due(air(x, "up"), -12);
        due(x.count(5), 0);
        due(x.of(0, 4), 8);
        due(air(x, "base 20;safe 3;base 30;safe 4"), 1);
        due(x.of(0, 4), 5);
        due(x.told(5), 300);
        due(x.told(6), 40);
        due(air(x, "safe 99;base 41"), 2);
        due(x.told(5), 400);
        due(x.told(6), 990);
        due(air(x, "up 1 l=0"), 3);
        due(x.told(5), 400);
        due(x.told(6), 80);
        due(air(x, "base 00"), 4);
        due(x.told(5), 0);
        due(air(x, "base 0"), 5);
        due(air(x, "up "), -4);
        due(x.count(5), 3);
        due(x.count(1), 6);
    }

    private static void faults() {
        begin(7);
        String[] texts = {"", "x", "u", "uP", "up", "up1", "up x", "up 1", "up 12", "up 123", "up 1  l=1", "up 1 ",
            "up 1 l", "up 1 l!", "up 1 l=", "up 1 l=x", "up 1 l=123", "up 1 l=1 ", "up 1 l=1;", "up 1 l=1;;", "up 1 l=1)",
            "up 1 (l=1", "up 1 (l=1;", "up 1 ((l=1)", "up 1 ()", "up 1 l=1&", "up 1 l=1&&", "up 1 l=1|;", "up 1 !",
            "up 1 !;", "up 1 !!!!l=1", "up 1 !!!!!l=1", "up 1 ((((l=1))))", "up 1 (((((", "up 1 !(!(!l=1))",
            "up 1 !(!(l=1&!l=2))", "up 1 ((((l=1)&(l=2))))", "base", "base ", "base 1 ", "base 123", "basis", "down 1 l=1",
            "dup", "safe 1;up 1 k>2|m<3", "sa", "SAFE 1", "base 1\n", "up 1 x=1"};
        int[] places = {0, 0, 1, 1, 2, 2, 3, 4, 5, 5, 5, 5, 6, 6, 7, 7, 9, 8, 9, 9, 8, 9, 9, 11, 6, 9, 9, 9, 6, 6, -1, 9,
            -1, 9, 9, 13, -1, 4, 5, 6, 7, 3, -1, 1, -1, 2, 0, 6, 5};
        for (int i = 0; i < texts.length; i++) {
            due(air(new SomebodysLift(), texts[i]), places[i] < 0 ? 0 : -10 - places[i]);
        }
        due(air(new SomebodysLift(), "up 1 ((((l=1&!l=2))))"), -10 - 13);
        String ten = "base 1;base 1;base 1;base 1;base 1;base 1;base 1;base 1;base 1;base 1";
        due(air(new SomebodysLift(), ten), 0);
        due(air(new SomebodysLift(), ten + ";"), -10 - ten.length());
        due(air(new SomebodysLift(), ten + ";base 1"), -10 - ten.length());
        StringBuilder full = new StringBuilder("up 11 l=11");
        while (full.length() < 98) {
            full.append("&l=1");
        }
        due(air(new SomebodysLift(), full.toString()), 0);
        due(air(new SomebodysLift(), full + "&l"), -10 - 100);
        due(air(new SomebodysLift(), full + "11"), -10 - 99);
    }

    /** What a text with a FAULT has begun is not in the next AIR. */
    private static void airBehindAFault() {
        SomebodysLift x = begin(7);
        x.lift(0, 0, 0, 5);
        due(air(x, "base 20;safe 3;up 9 l=0;up 7 l=0&l"), -10 - 34);
        due(x.of(0, 4), 5);
        due(x.told(5), 400);
        due(air(x, "up 1 l=0"), 0);
        due(x.of(0, 4), 6);
        due(x.told(5), 400);
        due(x.told(6), 80);
        due(air(x, "up 1 l=0;up 2 l=1;down 30 l=1;up 40 l=1|l=0;down 8 l=0&v=0"), 1);
        due(x.of(0, 4), 38);
    }

    private static void tests() {
        begin(7);
        due(holds("l=1", 0, 0, 0, 100, 0) ? 1 : 0, 1);
        due(holds("l<1", 0, 0, 0, 100, 0) ? 1 : 0, 0);
        due(holds("l>0", 0, 0, 0, 100, 0) ? 1 : 0, 1);
        due(holds("k=4", 4, 0, 0, 100, 0) ? 1 : 0, 1);
        due(holds("k=1", 4, 0, 0, 100, 0) ? 1 : 0, 0);
        due(holds("h=1", 0, 0, 0, 99, 0) ? 1 : 0, 1);
        due(holds("h=2", 0, 0, 0, 100, 0) ? 1 : 0, 1);
        due(holds("h=8", 0, 0, 0, 400, 0) ? 1 : 0, 1);
        due(holds("t=0", 0, 0, 0, 100, 9) ? 1 : 0, 1);
        due(holds("t=1", 0, 0, 0, 100, 10) ? 1 : 0, 1);
        due(holds("t=99", 0, 0, 0, 100, 999) ? 1 : 0, 1);
        due(holds("t=99", 0, 0, 0, 100, 1000) ? 1 : 0, 1);
        due(holds("t=99", 0, 0, 0, 100, 989) ? 1 : 0, 0);
        due(holds("v=9", 0, 9, 0, 100, 0) ? 1 : 0, 1);
        due(holds("m=9", 0, 0, 99, 100, 0) ? 1 : 0, 1);
        due(holds("m=1", 0, 0, 20, 100, 0) ? 1 : 0, 0);
        due(holds("m=01", 0, 0, 19, 100, 0) ? 1 : 0, 1);
        String yes = "l=1";
        String no = "l=0";
        due(holds(yes + "|" + no + "&" + no, 0, 0, 0, 100, 0) ? 1 : 0, 1);
        due(holds("(" + yes + "|" + no + ")&" + no, 0, 0, 0, 100, 0) ? 1 : 0, 0);
        due(holds(no + "&" + no + "|" + yes, 0, 0, 0, 100, 0) ? 1 : 0, 1);
        due(holds(no + "|" + yes + "|" + no, 0, 0, 0, 100, 0) ? 1 : 0, 1);
        due(holds(yes + "|" + no + "|" + no, 0, 0, 0, 100, 0) ? 1 : 0, 1);
        due(holds(yes + "&" + yes + "&" + no, 0, 0, 0, 100, 0) ? 1 : 0, 0);
        due(holds(no + "|" + yes + "&" + yes + "|" + no, 0, 0, 0, 100, 0) ? 1 : 0, 1);
        due(holds("!" + no + "&" + yes, 0, 0, 0, 100, 0) ? 1 : 0, 1);
        due(holds("!" + yes + "&" + no, 0, 0, 0, 100, 0) ? 1 : 0, 0);
        due(holds("!(" + yes + "&" + no + ")", 0, 0, 0, 100, 0) ? 1 : 0, 1);
        due(holds("!!" + yes, 0, 0, 0, 100, 0) ? 1 : 0, 1);
        due(holds("!!!!" + yes + "&!" + no, 0, 0, 0, 100, 0) ? 1 : 0, 1);
        due(holds(yes + "|(" + no + "|(" + no + "|(" + no + "|" + no + "&" + no + ")))", 0, 0, 0, 100, 0) ? 1 : 0, 1);
    }

    private static void homeAndHeight() {
        SomebodysLift x = begin(8);
        due(x.home(0), 60);
        due(x.home(99), 0);
        due(x.home(-1), -2);
        due(x.home(100), -2);
        due(x.told(4), 99);
        promise = 9;
        due(x.height(0), 100);
        due(x.height(400), 0);
        due(x.height(401), -2);
        due(x.height(-1), -2);
        due(x.told(2), 400);
    }

    private static void told() {
        SomebodysLift x = begin(10);
        x.lift(0, 0, 4, 3);
        due(x.glide(4, 5), 60);
        due(x.enter(0), 3);
        due(x.told(0), 20);
        due(x.told(1), 4);
        due(x.told(2), 60);
        due(x.told(3), 0);
        due(x.told(-1), -1);
        due(x.told(7), -1);
        due(x.told(MIN), -1);
    }

    // ---- flying

    private static void enter() {
        SomebodysLift x = begin(11);
        x.lift(0, 0, 0, 3);
        x.lift(2, 0, 0, 9);
        x.lift(0, 0, 1, 3);
        due(x.enter(1), 4);
        due(x.told(3), 1);
        due(x.enter(0), 3);
        due(x.told(3), 0);
        due(x.enter(2), -1002);
        due(x.enter(3), -1001);
        due(x.enter(-1), -1001);
        due(x.told(3), 0);
        air(x, "down 99 l=1");
        due(x.enter(1), -45);
    }

    private static void turn() {
        SomebodysLift x = begin(12);
        x.lift(0, 0, 0, 3);
        due(x.turn(0), -3);
        due(x.turn(61), -2);
        x.enter(0);
        due(x.turn(-1), -2);
        due(x.turn(61), -2);
        due(x.turn(0), 100);
        due(x.turn(2), 106);
        due(x.told(0), 2);
        due(x.turn(60), 286);
        air(x, "base 25");
        // Above BASE one comes no higher than one was, ...
        due(x.turn(3), 286);
        // ... and below it no higher than BASE.
        x.height(249);
        due(x.turn(1), 250);
        due(x.turn(5), 250);
        air(x, "down 99 l=0;base 25");
        due(x.turn(1), 154);
        due(x.turn(2), 0);
        due(x.told(0), 74);
        for (int n = 0; n < 165; n++) {
            x.turn(60);
        }
        due(x.told(0), 9974);
        due(x.turn(26), -3);
        due(x.told(0), 9974);
        due(x.turn(25), 0);
        due(x.told(0), 9999);
        due(x.turn(1), -3);
        due(x.turn(0), 0);
        // What is asked goes beyond 9999 all the same.
        x.height(400);
        due(x.up(0, 1), 304);
        due(x.glide(1, 9), -3);
        due(x.arrives(1, 9), 386);
        due(x.glide(0, 9), 400);
    }

    private static void glide() {
        SomebodysLift x = begin(13);
        x.lift(0, 0, 10, 3);
        due(x.glide(10, 5), 0);
        due(x.told(0), 50);
        due(x.told(1), 10);
        x.enter(0);
        due(x.glide(11, 1), -3);
        due(x.told(3), 0);
        due(x.glide(10, 9), 0);
        due(x.told(3), -5);
        due(x.told(0), 50);
        due(x.glide(-1, 1), -2);
        due(x.glide(100, 1), -2);
        due(x.glide(10, 0), -2);
        due(x.glide(10, 10), -2);
        x.height(14);
        due(x.glide(9, 9), 0);
        due(x.told(0), 51);
        x.height(13);
        due(x.glide(8, 9), -3);
        due(x.told(1), 9);
        due(x.told(2), 13);
    }

    // ---- up, over

    private static void upAndTop() {
        SomebodysLift x = begin(14);
        x.lift(0, 0, 50, 7);
        due(x.up(0, 0), 100);
        due(x.up(0, 10), 170);
        due(x.up(0, 60), 400);
        due(x.up(0, 61), -2);
        due(x.up(0, -1), -2);
        due(x.up(1, 61), -1);
        due(x.up(-1, 0), -1);
        due(x.told(2), 100);
        due(x.told(0), 0);
        promise = 15;
        due(x.top(0, 0), 400);
        due(x.top(0, 1), 43);
        due(x.top(0, 2), -1);
        due(x.top(0, -1), -1);
        due(x.top(1, 0), -1);
        air(x, "down 9 t>2;base 99");
        x.pull(0, 5);
        due(x.top(0, 0), 250);
        due(x.top(0, 1), 30);
        air(x, "down 9 l=0");
        due(x.top(0, 0), 100);
        due(x.top(0, 1), 0);
        air(x, "up 0 l=0");
        due(x.top(0, 0), 400);
        due(x.top(0, 1), 60);
    }

    private static void arrivesAndOuted() {
        SomebodysLift x = begin(16);
        x.glide(5, 1);
        x.height(100);
        due(x.arrives(15, 5), 0);
        due(x.arrives(16, 5), -5);
        due(x.arrives(0, 5), 50);
        due(x.arrives(5, 9), 100);
        due(x.arrives(100, 5), -2);
        due(x.arrives(-1, 5), -2);
        due(x.arrives(5, 0), -2);
        due(x.arrives(5, 10), -2);
        due(x.told(1), 5);
        promise = 17;
        due(x.outed(15, 5), 10);
        due(x.outed(16, 5), 10);
        due(x.outed(99, 9), 7);
        due(x.outed(0, 1), 5);
        due(x.outed(5, 1), 0);
        due(x.outed(100, 5), -2);
        due(x.outed(-1, 5), -2);
        due(x.outed(5, 0), -2);
        due(x.outed(5, 10), -2);
    }

    private static void reachAndNext() {
        SomebodysLift x = begin(18);
        due(x.reach(1), 0);
        x.height(200);
        x.lift(0, 0, 12, 5);
        x.lift(0, 0, 13, 20);
        x.lift(1, 4, 11, 5);
        x.lift(0, 0, 2, 7);
        due(x.reach(5), 13);
        due(x.reach(9), 8);
        due(x.reach(0), -2);
        due(x.reach(10), -2);
        promise = 19;
        due(x.next(5), 2);
        due(x.next(9), 3);
        due(x.next(0), -2);
        due(x.next(10), -2);
        x.height(79);
        due(x.next(1), -5);
        due(x.reach(1), 0);
        // CLIMB is as it is on arriving: below 100, and behind 60 MINUTES.
        x.height(200);
        air(x, "up 9 h<2&t>5&l=0");
        due(x.next(5), 0);
        air(x, "down 20 l<9");
        due(x.next(5), 2);
        due(x.next(9), 3);
        SomebodysLift y = new SomebodysLift();
        y.lift(0, 0, 0, 0);
        air(y, "down 9 l=0");
        due(y.next(1), 0);
        due(y.reach(1), 1);
    }

    private static void lowest() {
        SomebodysLift x = begin(20);
        x.lift(0, 0, 20, 0);
        x.lift(0, 0, 32, 0);
        x.lift(0, 0, 33, 0);
        due(x.lowest(0, 1), 200);
        due(x.lowest(1, 5), 400);
        due(x.lowest(2, 5), -5);
        due(x.lowest(0, 0), -2);
        due(x.lowest(0, 10), -2);
        due(x.lowest(3, 0), -1);
        air(x, "safe 0");
        due(x.lowest(2, 5), 330);
        x.height(400);
        x.glide(33, 1);
        due(x.lowest(2, 5), 0);
    }

    // ---- home

    private static void by() {
        SomebodysLift x = begin(21);
        x.home(20);
        x.lift(0, 0, 10, 4);
        x.lift(0, 0, 17, 4);
        // There with 40, 180 are needed: 35 minutes, and twice 60.
        due(x.by(0, 1, 0), 90 + 25 + 90);
        due(x.by(0, 1, 1), 140);
        due(x.by(0, 5, 0), 50 + 45 + 50);
        due(x.by(0, 5, 1), 180);
        due(x.by(0, 6, 0), -5);
        due(x.by(1, 1, 0), -5);
        due(x.by(1, 1, 1), -5);
        due(x.by(0, 1, 2), -1);
        due(x.by(0, 0, 2), -1);
        due(x.by(2, 1, 0), -1);
        due(x.by(0, 0, 0), -2);
        due(x.by(0, 10, 0), -2);
        x.pull(0, 3);
        due(x.by(0, 5, 0), 50 + 60 + 50);
        x.pull(0, 2);
        due(x.by(0, 5, 0), -5);
        x.height(400);
        due(x.by(0, 5, 0), 100);
        due(x.by(0, 5, 1), 300);
        due(x.told(2), 400);
        due(x.told(0), 0);
    }

    private static void straight() {
        SomebodysLift x = begin(22);
        x.home(10);
        x.height(140);
        due(x.straight(1), 90);
        due(x.straight(2), -5);
        x.height(139);
        due(x.straight(1), -5);
        due(x.straight(0), -2);
        due(x.straight(10), -2);
        x.home(0);
        due(x.straight(9), 0);
        x.glide(5, 3);
        x.height(140);
        due(x.straight(1), 45);
    }

    private static void best() {
        SomebodysLift x = begin(23);
        due(x.best(3), -1001);
        due(x.best(-1), -1001);
        due(x.best(0), -5);
        due(x.best(1), -5);
        due(x.best(2), -5);
        x.home(10);
        x.height(180);
        due(x.best(0), -1);
        due(x.best(1), 5);
        due(x.best(2), 50);
        // As quick by this lift as straight, ...
        x.lift(0, 0, 5, 0);
        due(x.best(0), -1);
        // ... quicker by one with a stronger one, ...
        x.lift(0, 0, 5, 20);
        x.lift(0, 0, 5, 20);
        due(x.best(0), 1);
        due(x.best(1), 9);
        due(x.best(2), 12);
        // ... and of two that are alike the first.
        x.pull(0, 20);
        due(x.best(0), 0);
        x.home(0);
        due(x.best(0), -1);
        due(x.best(1), 1);
        due(x.best(2), 0);
        due(x.told(2), 180);
        // MINUTES count from now on, with the quickest pace too.
        x.glide(5, 9);
        x.height(400);
        x.home(10);
        due(x.best(0), -1);
        due(x.best(1), 9);
        due(x.best(2), 5);
        x.height(100);
        x.pull(0, 10);
        due(x.by(1, 9, 0), 3 + 5);
        due(x.best(0), 1);
        due(x.best(2), 8);
    }

    private static void bestOfPaces() {
        SomebodysLift x = begin(23);
        x.home(10);
        x.height(0);
        x.lift(0, 0, 0, 1);
        air(x, "safe 0");
        due(x.best(0), 0);
        due(x.best(1), 1);
        due(x.best(2), 60 + 90);
        x.height(10);
        due(x.best(0), 0);
        due(x.best(1), 1);
        due(x.best(2), 50 + 90);
        // One more of PACE: 10 minutes of circling more, 10 of gliding less.
        due(x.by(0, 2, 0), 60 + 80);
        x.height(21);
        due(x.by(0, 3, 0), 59 + 70);
        due(x.best(1), 1);
        due(x.best(2), 39 + 90);
    }

    private static void two() {
        SomebodysLift x = begin(24);
        x.home(40);
        x.lift(0, 0, 10, 5);
        x.lift(0, 0, 25, 9);
        x.lift(0, 0, 30, 0);
        // To mile 10 with 20 left; 200 are needed to 25, and 200 on: 36 and 14 minutes.
        due(x.two(3, 0), 1);
        due(x.two(3, 1), 70 + 36 + 105 + 14 + 105);
        due(x.two(3, 2), -1);
        due(x.two(3, -1), -1);
        due(x.two(0, 2), -1);
        due(x.two(0, 0), -2);
        due(x.two(10, 0), -2);
        due(x.two(9, 0), -5);
        due(x.two(9, 1), -5);
        x.pull(0, 4);
        due(x.two(3, 0), -5);
        x.pull(0, 5);
        x.pull(1, 3);
        due(x.two(3, 1), 70 + 36 + 105 + 40 + 105);
        x.pull(1, 2);
        due(x.two(3, 0), -5);
        // 40 MINUTES do in the first, 41 would be one too many.
        x.pull(1, 9);
        x.home(25);
        x.pull(0, 4);
        x.height(120);
        due(x.two(3, 1), 70 + 40 + 105);
        x.height(119);
        due(x.two(3, 1), -5);
        // The other way round: from the greater number to the lesser.
        SomebodysLift y = new SomebodysLift();
        y.home(40);
        y.lift(0, 0, 25, 9);
        y.height(400);
        due(y.two(3, 0), -5);
        due(y.by(0, 3, 0), 280);
        y.height(100);
        y.lift(0, 0, 10, 5);
        due(y.two(3, 0), 10);
        due(y.two(3, 1), 330);
        y.lift(0, 0, 10, 5);
        due(y.two(3, 0), 10);
    }

    private static void worth() {
        SomebodysLift x = begin(25);
        x.home(10);
        x.lift(0, 0, 5, 20);
        due(x.best(2), 16);
        due(x.worth(0), 999 - 16);
        x.lift(0, 0, 5, 20);
        due(x.worth(0), 0);
        due(x.worth(1), 0);
        x.pull(1, 10);
        due(x.worth(0), 6);
        due(x.worth(2), -1);
        due(x.worth(-1), -1);
        x.height(180);
        x.pull(1, 0);
        // Without the first it is straight again: 50 minutes, with it 12.
        due(x.worth(0), 38);
        due(x.worth(1), 0);
        x.height(0);
        due(x.worth(0), 0);
    }

    // ---- flights

    private static void legAndFlown() {
        SomebodysLift x = begin(26);
        x.lift(0, 0, 10, 5);
        x.lift(0, 0, 5, 3);
        due(x.leg(0, 60), 1);
        due(x.leg(1, 0), 2);
        due(x.leg(0, 61), -2);
        due(x.leg(0, -1), -2);
        due(x.leg(2, 61), -1);
        due(x.leg(-2, 0), -1);
        due(x.leg(1, 1), 3);
        due(x.leg(1, 1), 4);
        due(x.leg(1, 1), -4);
        due(x.leg(1, 61), -2);
        due(x.leg(2, 1), -1);
        due(x.count(2), 4);
        due(x.leg(-1, 77), 0);
        due(x.count(2), 0);
        due(x.leg(-1, MIN), 0);
        promise = 27;
        x.home(0);
        due(x.flown(1, 0), 100);
        due(x.flown(1, 1), 0);
        x.leg(0, 30);
        x.leg(1, 10);
        due(x.flown(3, 0), 100 - 80 + 150 - 40 + 30 - 40);
        due(x.flown(3, 1), 70 + 30 + 35 + 10 + 35);
        due(x.flown(5, 1), 50 + 30 + 25 + 10 + 25);
        due(x.flown(6, 0), -5);
        due(x.flown(6, 1), -5);
        due(x.flown(0, 0), -2);
        due(x.flown(10, 0), -2);
        due(x.flown(1, 2), -1);
        due(x.flown(0, 2), -1);
        x.home(99);
        due(x.flown(1, 0), -5);
        due(x.told(2), 100);
        x.home(0);
        x.glide(10, 5);
        x.height(50);
        due(x.flown(3, 1), 30 + 35 + 10 + 35);
    }

    // ---- seen, odds, books

    private static void seeAndWho() {
        SomebodysLift x = begin(28);
        x.lift(0, 0, 10, 5);
        x.lift(6, 0, 5, 5);
        x.lift(0, 0, 90, 5);
        due(x.who(), 7);
        due(x.see(5), 1);
        due(x.see(100), -2);
        due(x.see(-101), -2);
        promise = 29;
        due(x.who(), 7);
        x.row(1, 1, 2);
        due(x.who(), 7);
        due(x.see(5), 2);
        due(x.who(), 5);
        due(x.see(-100), 0);
        due(x.who(), 7);
        x.see(5);
        x.see(7);
        due(x.who(), 2);
        x.see(99);
        due(x.see(-99), 4);
        due(x.who(), 0);
        promise = 28;
        due(x.see(0), 5);
        due(x.see(0), -4);
        due(x.see(100), -2);
        due(x.count(3), 5);
        due(x.see(-100), 0);
        due(x.count(3), 0);
        promise = 29;
        // Near BASE it is less that one sees.
        x.height(398);
        x.see(2);
        due(x.who(), 7);
        x.see(0);
        due(x.who(), 7);
    }

    private static void odds() {
        SomebodysLift x = begin(30);
        due(x.odds(0, 0, 0), NO);
        x.lift(0, 0, 10, 0);
        due(x.odds(100, 10, 0), 1);
        due(x.odds(100, 10, 1), 1);
        due(x.odds(101, 10, 0), 0);
        due(x.odds(101, 10, 1), 1);
        x.lift(0, 0, 10, 1);
        x.lift(0, 0, 10, 2);
        x.lift(0, 0, 10, 3);
        due(x.odds(120, 10, 0), 1);
        due(x.odds(120, 10, 1), 2);
        due(x.odds(121, 10, 0), 1);
        due(x.odds(121, 10, 1), 4);
        due(x.odds(131, 10, 0), 0);
        due(x.odds(131, 10, 1), 1);
        due(x.odds(0, 0, 0), 1);
        due(x.odds(0, 0, 1), 1);
        due(x.odds(101, 60, 0), 3);
        due(x.odds(101, 60, 1), 4);
        due(x.odds(400, 60, 0), 0);
        due(x.odds(401, 60, 0), NO);
        due(x.odds(-1, 60, 0), NO);
        due(x.odds(0, 61, 0), NO);
        due(x.odds(0, -1, 0), NO);
        due(x.odds(0, 0, 2), NO);
        due(x.odds(0, 0, -1), NO);
    }

    private static void mean() {
        SomebodysLift x = begin(31);
        due(x.mean(0, 0), NO);
        due(x.mean(0, 1), NO);
        x.lift(0, 0, 10, 0);
        due(x.mean(0, 0), 100);
        due(x.mean(0, 1), 1);
        x.lift(0, 0, 10, 1);
        x.lift(0, 0, 10, 4);
        due(x.mean(1, 0), 305);
        due(x.mean(1, 1), 3);
        due(x.mean(3, 0), 105);
        due(x.mean(3, 1), 1);
        due(x.mean(61, 0), NO);
        due(x.mean(-1, 0), NO);
        due(x.mean(1, 2), NO);
        due(x.mean(1, -1), NO);
        x.pull(2, 0);
        x.lift(0, 0, 10, 1);
        due(x.mean(1, 0), 201);
        due(x.mean(1, 1), 2);
        x.height(0);
        x.pull(1, 0);
        x.pull(3, 0);
        due(x.mean(60, 0), 0);
        due(x.mean(60, 1), 1);
    }

    private static void bookAndLooked() {
        SomebodysLift x = begin(32);
        x.lift(0, 0, 10, 5);
        x.lift(2, 0, 10, 5);
        due(x.looked(), -5);
        due(x.book(0, 5), 1);
        due(x.book(1, 2), 2);
        due(x.book(0, 100), -2);
        due(x.book(0, -100), -2);
        due(x.book(2, 100), -1);
        due(x.book(-2, 0), -1);
        promise = 33;
        due(x.looked(), -5);
        due(x.book(1, 99), 3);
        due(x.book(1, -99), 4);
        due(x.looked(), 2);
        x.pull(1, 6);
        due(x.looked(), 1);
        x.pull(0, 6);
        due(x.looked(), 0);
        promise = 32;
        for (int n = 5; n <= 8; n++) {
            due(x.book(0, 0), n);
        }
        due(x.book(0, 0), -4);
        due(x.book(0, 100), -2);
        due(x.count(4), 8);
        due(x.book(-1, 1000), 0);
        due(x.count(4), 0);
        due(x.looked(), -5);
    }

    // ---- judging, the image, acts, tapes

    private static void judge() {
        SomebodysLift x = begin(34);
        due(x.judge(0, 0), -5);
        due(x.judge(0, -1), -5);
        due(x.judge(6, 0), -1);
        due(x.judge(-1, 0), -1);
        x.tape(1, 1, 5);
        due(x.judge(1, 0), -12);
        x.lift(0, 0, 10, 5);
        x.lift(0, 0, 99, 5);
        due(x.judge(1, 0), -12);
        due(x.judge(0, 0), 100);
        x.tape(0, 0, 4);
        due(x.judge(0, 0), 0);
        x.item(0, 1, 10);
        due(x.judge(0, 1), 1);
        x.item(0, 2, 99);
        due(x.judge(0, 1), -5);
        due(x.judge(0, -1), 100);
        due(x.judge(0, MIN), 100);
        due(x.judge(0, MAX), 100);
        due(x.judge(0, 4), 100);
        x.item(0, 3, 10);
        due(x.judge(0, 3), 101);
        x.item(0, 3, 11);
        due(x.judge(0, 3), 0);
        x.tape(0, 0, 0);
        due(x.judge(0, 0), 100);
        x.tape(0, -1, 0);
        due(x.judge(0, 0), 100);
    }

    private static void imageAndUndo() {
        SomebodysLift x = begin(35);
        due(x.undo(), -3);
        due(x.image(), 0);
        x.lift(6, 3, 0, 5);
        x.lift(0, 0, 10, 5);
        x.row(0, 1, 7);
        air(x, "base 20");
        x.enter(0);
        x.turn(5);
        x.home(33);
        x.leg(1, 3);
        x.see(4);
        x.book(0, 5);
        due(x.image(), 2);
        int height = x.told(2);
        promise = 36;
        x.lift(1, 1, 1, 1);
        air(x, "base 30");
        x.pull(0, 9);
        x.row(0, 1, 8);
        x.turn(4);
        x.height(399);
        x.glide(9, 1);
        x.home(1);
        x.leg(1, 3);
        x.see(5);
        x.book(-1, 0);
        x.feed('u');
        x.tape(2, 2, 2);
        x.act(0, 0, 0);
        due(x.undo(), 2);
        due(x.count(0), 2);
        due(x.of(0, 3), 5);
        due(x.row(0, 1, 7), 7);
        due(x.told(0), 5);
        due(x.told(1), 0);
        due(x.told(2), height);
        due(x.told(3), 0);
        due(x.told(4), 33);
        due(x.told(5), 200);
        due(x.count(2), 1);
        due(x.count(3), 1);
        due(x.count(4), 1);
        due(x.who(), 0);
        due(x.looked(), 0);
        // Not in an image: AIRS, THE TEXT, THE TRACE, TAPES.
        due(x.count(1), 2);
        due(x.count(5), 1);
        due(x.count(6), 2);
        due(x.read(2, 1), 0);
        due(x.air(), -11);
        due(air(x, "base 10"), 2);
        due(x.told(5), 100);
        // The image stays for the next time, whatever comes.
        x.pull(0, 1);
        due(x.undo(), 2);
        due(x.of(0, 3), 5);
        due(x.told(5), 200);
        // A place that an undo left is as new for the next lift.
        due(x.lift(6, 1, 1, 1), 2);
        for (int part = 0; part < 4; part++) {
            due(x.row(2, part, 0), 0);
        }
        due(x.row(2, 0, 9), 0);
        due(x.undo(), 2);
        due(x.lift(6, 1, 1, 1), 2);
        due(x.row(2, 0, 9), 0);
        due(x.image(), 3);
        due(x.undo(), 3);
    }

    /** Rows that were told away come back with their lifts and numbers. */
    private static void undoOfRows() {
        SomebodysLift x = begin(36);
        x.lift(0, 0, 4, 5);
        x.lift(0, 0, 8, 9);
        x.home(8);
        x.leg(0, 30);
        x.leg(1, 7);
        x.see(9);
        x.see(9);
        x.book(0, 5);
        x.book(1, 9);
        due(x.flown(1, 0), 100 - 24 + 150 - 24 + 63);
        x.image();
        x.leg(-1, 0);
        x.leg(1, 1);
        x.leg(0, 1);
        x.see(-100);
        x.see(5);
        x.see(5);
        x.book(-1, 0);
        x.book(1, 0);
        x.book(0, 0);
        due(x.who(), 1);
        due(x.looked(), 0);
        x.undo();
        due(x.flown(1, 0), 100 - 24 + 150 - 24 + 63);
        due(x.who(), 2);
        due(x.looked(), -5);
        x.pull(1, 8);
        due(x.looked(), 1);
    }

    /** An undo brings a kind back under a number that has answered for another meanwhile. */
    private static void undoOfGain() {
        SomebodysLift x = begin(36);
        air(x, "up 7 k=0&v<5;up 3 m=2");
        x.image();
        x.lift(0, 1, 20, 1);
        due(x.of(0, 4), 11);
        x.undo();
        x.lift(3, 1, 10, 1);
        due(x.of(0, 4), 1);
        x.undo();
        x.lift(0, 9, 20, 1);
        due(x.of(0, 4), 4);
        air(x, "up 1 k=0");
        due(x.of(0, 4), 2);
        due(x.undo(), 0);
        due(x.of(0, 4), -1001);
    }

    private static void tracedAct(SomebodysLift x, int lift, int act, int n, int want, int... bodies) {
        due(x.act(lift, act, n), want);
        due(x.count(6), bodies.length);
        for (int i = 0; i < bodies.length; i++) {
            due(x.trace(i), bodies[i]);
        }
        due(x.trace(bodies.length), -1);
        due(x.trace(-1), -1);
    }

    private static void actAndTrace() {
        SomebodysLift x = begin(37);
        x.lift(5, 1, 0, 0);
        x.lift(0, 2, 0, 0);
        x.lift(1, 3, 0, 0);
        x.lift(4, 4, 0, 0);
        x.lift(3, 5, 0, 0);
        x.lift(6, 6, 0, 0);
        tracedAct(x, 1, 0, 10, 11, 10);
        tracedAct(x, 1, 1, 10, 9, 11, 10);
        tracedAct(x, 1, 2, 10, 18, 12, 11, 10);
        tracedAct(x, 2, 0, 10, 12, 10);
        tracedAct(x, 2, 1, 10, 9 ^ 6, 20, 11, 10);
        tracedAct(x, 2, 2, 10, (9 ^ 6) * 2, 12, 20, 11, 10);
        tracedAct(x, 3, 0, 10, -13, 50, 10);
        tracedAct(x, 3, 1, 10, -18 ^ 6, 51, 20, 11, 50, 10);
        tracedAct(x, 3, 2, 10, (-18 ^ 6) * 2, 12, 51, 20, 11, 50, 10);
        tracedAct(x, 4, 0, 10, 14, 10);
        tracedAct(x, 4, 1, 10, 9, 11, 10);
        tracedAct(x, 4, 2, 10, 18 + 0, 40, 12, 11, 10, 11, 10);
        tracedAct(x, 0, 0, 10, 30, 30, 10);
        tracedAct(x, 0, 1, 10, 29, 11, 30, 10);
        tracedAct(x, 0, 2, 10, 58, 60, 12, 11, 30, 10);
        tracedAct(x, 5, 0, 10, 15 ^ 6, 71, 10);
        tracedAct(x, 5, 1, 10, (15 ^ 6) - 6 + 7, 70, 11, 71, 10, 10);
        tracedAct(x, 5, 2, 10, 2 * ((15 ^ 6) + 1) + (6 ^ 6) + 1, 40, 12, 70, 11, 71, 10, 10, 70, 11, 71, 10, 10);
        SomebodysLift y = new SomebodysLift();
        y.lift(0, 0, 0, 0);
        y.lift(5, 4, 0, 0);
        tracedAct(y, 1, 2, 10, (27 + 1 - 4) * 2, 60, 12, 11, 30, 10);
        tracedAct(x, 1, 0, MAX, MIN, 10);
        promise = 38;
        due(x.count(6), 1);
        tracedAct(x, 6, 0, 10, 0);
        x.act(0, 0, 0);
        tracedAct(x, 0, 3, 10, 0);
        x.act(0, 0, 0);
        tracedAct(x, 0, -1, 10, 0);
        x.act(0, 0, 0);
        tracedAct(x, -1, 0, 10, 0);
        due(x.trace(MIN), -1);
        due(x.trace(MAX), -1);
        due(x.trace(20), -1);
    }

    private static void taken() {
        SomebodysLift x = begin(39);
        int[] above = {-1, 0, 0, 0, 1, 2, 3};
        due(x.taken(0, 7), -2);
        due(x.taken(0, -1), -2);
        due(x.taken(0, 0), -11);
        due(x.taken(-1, 0), -11);
        for (int kind = 0; kind < 7; kind++) {
            SomebodysLift y = new SomebodysLift();
            y.lift(kind, 0, 0, 0);
            for (int k = 0; k < 7; k++) {
                due(y.taken(0, k), k == kind || k == 0 || k == above[kind] ? kind : -12);
            }
            due(y.taken(0, 7), -2);
            due(y.taken(1, 0), -11);
        }
    }

    private static void count() {
        SomebodysLift x = begin(40);
        x.lift(0, 0, 0, 0);
        air(x, "base 1");
        air(x, "base 2");
        x.leg(0, 0);
        x.see(0);
        x.see(0);
        x.book(0, 0);
        x.book(0, 0);
        x.book(0, 0);
        x.feed('a');
        x.act(0, 2, 0);
        int[] due = {1, 2, 1, 2, 3, 1, 3};
        for (int what = 0; what < 7; what++) {
            due(x.count(what), due[what]);
        }
        due(x.count(-1), -2);
        due(x.count(7), -2);
    }

    private static void tape() {
        SomebodysLift x = begin(41);
        due(x.tape(0, 0, 60), 1);
        due(x.read(0, 59), 0);
        due(x.read(0, 60), NO);
        x.item(0, 5, 5);
        due(x.tape(0, 0, 61), -2);
        due(x.tape(0, 5, 0), -2);
        due(x.tape(0, -2, 0), -2);
        due(x.tape(0, 5, -1), -2);
        due(x.tape(0, 0, -1), -14);
        due(x.tape(0, 0, MIN), -14);
        due(x.tape(6, 9, -1), -1);
        due(x.tape(-1, -1, 0), -1);
        due(x.read(0, 5), 5);
        due(x.tape(0, 0, 60), 1);
        due(x.read(0, 5), 0);
        due(x.tape(5, 4, 0), 1);
        due(x.read(5, 0), NO);
        due(x.item(5, 0, 0), -13);
        due(x.tape(0, -1, MIN), 1);
        due(x.item(0, 0, 0), -11);
        due(x.read(0, 0), NO);
    }

    private static void itemAndRead() {
        SomebodysLift x = begin(42);
        long v = 0x123456789abcdef0L;
        long[] cut = {(byte) 0xf0, (short) 0xdef0, 0x9abcdef0, v, 1};
        for (int sort = 0; sort < 5; sort++) {
            x.tape(sort, sort, 3);
            due(x.item(sort, 2, v), 1);
            due(x.read(sort, 2), cut[sort]);
            due(x.read(sort, 1), 0);
            due(x.item(sort, 2, 0), 1);
            due(x.read(sort, 2), 0);
            due(x.item(sort, 3, 1), -13);
            due(x.item(sort, -1, 1), -13);
            due(x.item(sort, MAX, 1), -13);
            due(x.item(sort, MIN, 1), -13);
        }
        due(x.item(4, 0, Long.MIN_VALUE), 1);
        due(x.read(4, 0), 1);
        due(x.item(0, 0, 256), 1);
        due(x.read(0, 0), 0);
        due(x.item(5, 0, 1), -11);
        due(x.item(5, 99, 1), -11);
        due(x.item(6, 0, 1), -1);
        promise = 43;
        due(x.read(0, -1), NO);
        due(x.read(0, 3), NO);
        due(x.read(5, 0), NO);
        due(x.read(6, 0), NO);
        due(x.read(-1, 0), NO);
    }

    private static void shift() {
        SomebodysLift x = begin(44);
        x.tape(0, 2, 6);
        x.tape(1, 2, 4);
        x.tape(2, 3, 4);
        for (int i = 0; i < 6; i++) {
            x.item(0, i, 10 + i);
        }
        due(x.shift(0, 1, 1, 0, 4), 4);
        for (int i = 0; i < 4; i++) {
            due(x.read(1, i), 11 + i);
        }
        due(x.shift(0, 0, 0, 1, 5), 5);
        for (int i = 0; i < 6; i++) {
            due(x.read(0, i), i == 0 ? 10 : 9 + i);
        }
        due(x.shift(0, 2, 0, 0, 4), 4);
        for (int i = 0; i < 4; i++) {
            due(x.read(0, i), 11 + i);
        }
        due(x.shift(0, 6, 1, 4, 0), 0);
        due(x.shift(0, 7, 1, 4, 0), -13);
        due(x.shift(0, 6, 1, 5, 0), -13);
        due(x.shift(0, 0, 1, 0, -1), -13);
        due(x.shift(0, -1, 1, 0, 1), -13);
        due(x.shift(0, 0, 1, -1, 1), -13);
        due(x.shift(0, 0, 1, 0, 5), -13);
        due(x.shift(0, 3, 1, 0, 4), -13);
        due(x.shift(0, MAX, 1, 0, 1), -13);
        due(x.shift(0, 0, 1, MAX, 1), -13);
        due(x.shift(0, 1, 1, 1, MAX), -13);
        due(x.shift(0, 0, 1, 0, MIN), -13);
        due(x.shift(0, 0, 2, 0, 1), -12);
        due(x.shift(0, 9, 2, 9, 9), -12);
        due(x.shift(0, 0, 3, 0, 1), -11);
        due(x.shift(3, 0, 0, 0, 1), -11);
        due(x.shift(3, 0, 6, 0, 1), -1);
        due(x.shift(-1, 0, 3, 0, 1), -1);
    }

    public static void main(String[] args) {
        aNewObject();
        lift();
        of();
        climbOfKinds();
        pull();
        row();
        feed();
        airs();
        faults();
        airBehindAFault();
        tests();
        homeAndHeight();
        told();
        enter();
        turn();
        glide();
        upAndTop();
        arrivesAndOuted();
        reachAndNext();
        lowest();
        by();
        straight();
        best();
        bestOfPaces();
        two();
        worth();
        legAndFlown();
        seeAndWho();
        odds();
        mean();
        bookAndLooked();
        judge();
        imageAndUndo();
        undoOfRows();
        undoOfGain();
        actAndTrace();
        taken();
        count();
        tape();
        itemAndRead();
        shift();
        System.out.println(wrong == 0 ? "all " + rows + " answers are as due" : wrong + " answers are not as due");
        if (wrong != 0) {
            System.exit(1);
        }
    }
}
