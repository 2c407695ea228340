/** The bounds of THE IMAGE, of TAPES, of what is JUDGED and counted: one test for each sentence that names one. */
final class BoundsOfTapes {
    private static final int NOTHING = -11, CAST = -12, PLACE = -13, SIZE = -14;
    private static final int BYTES = 0, SHORTS = 1, INTS = 2, LONGS = 3, BOOLEANS = 4;

    private BoundsOfTapes() {
    }

    static void all() {
        imageOfLifts();
        imageAndGain();
        imageOfSixAndNone();
        imageOfTheGlider();
        imageOfHomeAndMinute();
        imageOfRows();
        imageOfTheAir();
        imageHoldsNoMore();
        imageOfNone();
        imageIsTheLatest();
        takenForKinds();
        takenOrder();
        counted();
        tapesHoldNothing();
        tapesAreSix();
        tapeOfItems();
        tapeOfSorts();
        tapeOfNothing();
        tapeIsAllNothing();
        bytesWrap();
        shortsWrap();
        intsWrap();
        longsStay();
        booleansAreTwo();
        itemRefused();
        readRefused();
        shiftAsBefore();
        shiftToTheEnd();
        shiftOfNone();
        shiftCast();
        shiftNothing();
        shiftNone();
        judgedOtherwise();
        judgedNone();
        judgedTillTheEnd();
        judgedFromBelow();
        judgedNothing();
        judgedCast();
        judgedNoTape();
    }

    private static void due(long got, long want) {
        Due.due(got, want);
    }

    // ---- the image

    private static void imageOfLifts() {
        Due.sentence("THE IMAGE: LIFTS with all that is theirs");
        SomebodysLift x = Due.with(6, 3, 7, 5);
        x.row(0, 0, 1);
        x.row(0, 3, 9);
        due(x.image(), 1);
        x.pull(0, 20);
        for (int part = 0; part < 4; part++) {
            x.row(0, part, 4);
        }
        x.lift(1, 1, 1, 1);
        due(x.undo(), 1);
        due(x.count(0), 1);
        due(x.of(1, 0), -1001);
        int[] due = {6, 3, 7, 5};
        for (int what = 0; what < 4; what++) {
            due(x.of(0, what), due[what]);
        }
        int[] row = {1, 0, 0, 9};
        for (int part = 0; part < 4; part++) {
            due(x.row(0, part, 0), row[part]);
        }
        // The next one has the number that is free again, and nothing of the one that had it.
        due(x.lift(6, 9, 99, 20), 1);
        due(x.of(1, 0), 6);
        due(x.row(1, 2, 8), 0);
        due(x.undo(), 1);
        due(x.lift(6, 0, 0, 0), 1);
        due(x.row(1, 2, 0), 0);
    }

    /** GAIN is that of the one that has the number now, though another one had it. */
    private static void imageAndGain() {
        Due.sentence("All is as THE IMAGE");
        SomebodysLift x = new SomebodysLift();
        Due.air(x, "up 7 k=0&v<5;up 3 m=2");
        x.image();
        x.lift(0, 1, 20, 1);
        due(x.of(0, 4), 11);
        x.undo();
        x.lift(3, 1, 10, 1);
        due(x.of(0, 4), 1);
        x.undo();
        x.lift(0, 9, 20, 1);
        due(x.of(0, 4), 4);
    }

    private static void imageOfSixAndNone() {
        Due.sentence("All is as THE IMAGE: how many LIFTS.");
        SomebodysLift x = new SomebodysLift();
        x.lift(0, 0, 0, 0);
        x.lift(0, 0, 0, 0);
        for (int n = 2; n < 6; n++) {
            x.lift(n, n, n, n);
        }
        due(x.image(), 6);
        due(x.undo(), 6);
        due(x.of(5, 3), 5);
        due(x.lift(0, 0, 0, 0), -4);
        x = new SomebodysLift();
        due(x.image(), 0);
        for (int n = 0; n < 6; n++) {
            x.lift(0, 0, 0, 0);
        }
        due(x.undo(), 0);
        due(x.count(0), 0);
        due(x.lift(0, 0, 0, 0), 0);
    }

    private static void imageOfTheGlider() {
        Due.sentence("LIFTS with all that is theirs, THE GLIDER");
        SomebodysLift x = Due.with(0, 0, 3, 5);
        x.glide(3, 1);
        x.image();
        x.enter(0);
        x.height(222);
        due(x.undo(), 1);
        due(x.told(3), -5);
        due(x.told(2), 82);
        x.glide(4, 1);
        x.undo();
        due(x.told(1), 3);
        due(x.told(2), 82);
        x.enter(0);
        x.image();
        x.glide(3, 1);
        due(x.told(3), -5);
        x.undo();
        due(x.told(3), 0);
        due(x.turn(1), 87);
        // IN a LIFT that there was not yet.
        x.image();
        x.lift(0, 0, 3, 1);
        x.enter(1);
        due(x.told(3), 1);
        x.undo();
        due(x.told(3), 0);
        due(x.turn(1), 92);
    }

    private static void imageOfHomeAndMinute() {
        Due.sentence("THE GLIDER, HOME, MINUTE");
        SomebodysLift x = Due.with(0, 0, 0, 5);
        x.home(33);
        x.enter(0);
        x.turn(7);
        x.image();
        x.home(44);
        x.turn(8);
        x.undo();
        due(x.told(4), 33);
        due(x.told(0), 7);
        due(x.home(0), 33);
    }

    private static void imageOfRows() {
        Due.sentence("MINUTE, the FLIGHT, SEEN, the BOOK");
        SomebodysLift x = Due.with(0, 0, 0, 5);
        x.lift(0, 0, 0, 6);
        x.home(0);
        x.leg(0, 3);
        x.leg(1, 4);
        x.see(5);
        x.see(5);
        x.book(0, 5);
        x.book(1, 6);
        x.book(1, 7);
        x.image();
        x.leg(0, 60);
        x.leg(0, 60);
        x.see(9);
        x.book(0, 1);
        x.undo();
        due(x.count(2), 2);
        due(x.count(3), 2);
        due(x.count(4), 3);
        x.leg(-1, 0);
        x.see(-100);
        x.book(-1, 0);
        x.leg(1, 9);
        x.see(6);
        x.book(1, 9);
        x.undo();
        due(x.count(2), 2);
        due(x.count(3), 2);
        due(x.count(4), 3);
        due(x.flown(1, 0), 100 + 15 + 24);
        due(x.flown(1, 1), 7);
        due(x.who(), 1);
        due(x.looked(), 2);
        // Full ones, and empty ones.
        x = Due.with(0, 0, 0, 5);
        for (int n = 0; n < 8; n++) {
            x.leg(0, n);
            x.see(n);
            x.book(0, n);
        }
        x.image();
        x.leg(-1, 0);
        x.see(-100);
        x.book(-1, 0);
        x.undo();
        due(x.leg(0, 0), -4);
        due(x.see(0), -4);
        due(x.book(0, 0), -4);
    }

    private static void imageOfTheAir() {
        Due.sentence("the BOOK, which AIR holds.");
        SomebodysLift x = Due.with(0, 0, 0, 5);
        x.image();
        due(Due.air(x, "up 3 l=0;base 20;safe 2"), 0);
        due(x.of(0, 4), 8);
        x.undo();
        due(x.of(0, 4), 5);
        due(x.told(5), 400);
        due(x.told(6), 80);
        due(Due.air(x, "up 4 l=0;base 21;safe 3"), 1);
        x.image();
        due(Due.air(x, "up 9 l=0;base 22;safe 4"), 2);
        x.undo();
        due(x.of(0, 4), 9);
        due(x.told(5), 210);
        due(x.told(6), 30);
    }

    private static void imageHoldsNoMore() {
        Due.sentence("THE IMAGE: LIFTS with all that is theirs, THE GLIDER, HOME, MINUTE, the FLIGHT, SEEN, the BOOK, "
            + "which AIR holds.");
        SomebodysLift x = Due.with(0, 0, 0, 5);
        x.image();
        for (int n = 0; n < 6; n++) {
            Due.air(x, "base " + n);
        }
        Due.feed(x, "safe 3");
        x.tape(0, BYTES, 2);
        x.item(0, 1, 7);
        x.act(0, 1, 5);
        x.undo();
        due(x.count(1), 6);
        due(x.count(5), 6);
        due(x.air(), -4);
        due(x.count(6), 2);
        due(x.trace(0), 11);
        due(x.read(0, 1), 7);
    }

    private static void imageOfNone() {
        Due.sentence("All is as THE IMAGE: how many LIFTS. STATE: there is none.");
        SomebodysLift x = Due.with(0, 0, 0, 5);
        due(x.undo(), -3);
        due(x.count(0), 1);
        x.height(33);
        due(x.undo(), -3);
        due(x.told(2), 33);
        due(x.image(), 1);
        due(x.undo(), 1);
        // An image of a new object is one, too.
        x = new SomebodysLift();
        due(x.image(), 0);
        due(x.undo(), 0);
    }

    private static void imageIsTheLatest() {
        Due.sentence("THE IMAGE is taken: how many LIFTS there are.");
        SomebodysLift x = new SomebodysLift();
        due(x.image(), 0);
        x.lift(0, 0, 0, 5);
        due(x.image(), 1);
        x.lift(0, 0, 0, 6);
        due(x.undo(), 1);
        // It stays what it is, whatever comes behind an undo, and as often as one likes.
        x.pull(0, 9);
        x.height(1);
        due(x.undo(), 1);
        due(x.of(0, 3), 5);
        due(x.told(2), 100);
        due(x.undo(), 1);
        due(x.undo(), 1);
    }

    // ---- kinds and counts

    private static void takenForKinds() {
        Due.sentence("A LIFT taken for one of KIND k (0 .. 6), or one under that: its KIND.");
        int[][] under = {{0}, {0, 1}, {0, 2}, {0, 3}, {0, 1, 4}, {0, 2, 5}, {0, 3, 6}};
        for (int kind = 0; kind < 7; kind++) {
            SomebodysLift x = Due.with(kind, 0, 0, 0);
            for (int k = 0; k < 7; k++) {
                boolean is = false;
                for (int one : under[kind]) {
                    is |= one == k;
                }
                due(x.taken(0, k), is ? kind : CAST);
            }
        }
    }

    private static void takenOrder() {
        Due.sentence("its KIND. BAD: k; NOTHING: no such LIFT; CAST.");
        SomebodysLift x = Due.with(0, 0, 0, 0);
        for (int k : new int[] {Due.MIN, -1, 7, Due.MAX}) {
            due(x.taken(0, k), -2);
            due(x.taken(1, k), -2);
        }
        for (int lift : new int[] {Due.MIN, -1, 1, 6, Due.MAX}) {
            for (int k = 0; k < 7; k++) {
                due(x.taken(lift, k), NOTHING);
            }
        }
        due(x.taken(0, 0), 0);
        due(x.taken(0, 6), CAST);
        due(new SomebodysLift().taken(0, 0), NOTHING);
    }

    private static void counted() {
        Due.sentence("How many: 0 LIFTS, 1 AIRS, 2 of the FLIGHT, 3 SEEN, 4 of the BOOK, 5 bytes of THE TEXT, "
            + "6 bodies that ran in the latest act() (all, kept or not). BAD.");
        SomebodysLift x = new SomebodysLift();
        for (int what = 0; what < 7; what++) {
            due(x.count(what), 0);
        }
        x = Due.busy();
        int[] due = {3, 1, 2, 2, 3, 6, 5};
        for (int what = 0; what < 7; what++) {
            due(x.count(what), due[what]);
        }
        for (int what : new int[] {Due.MIN, -1, 7, Due.MAX}) {
            due(x.count(what), -2);
        }
    }

    // ---- tapes

    private static void tapesHoldNothing() {
        Due.sentence("TAPES 0 .. 5 hold nothing (at first)");
        SomebodysLift x = new SomebodysLift();
        for (int tape = 0; tape < 6; tape++) {
            due(x.read(tape, 0), Due.NO);
            due(x.item(tape, 0, 0), NOTHING);
            due(x.shift(tape, 0, tape, 0, 0), NOTHING);
        }
    }

    private static void tapesAreSix() {
        Due.sentence("TAPES 0 .. 5");
        SomebodysLift x = new SomebodysLift();
        for (int tape = 0; tape < 6; tape++) {
            due(x.tape(tape, INTS, 2), 1);
            due(x.item(tape, 1, 10 + tape), 1);
        }
        for (int tape = 0; tape < 6; tape++) {
            due(x.read(tape, 0), 0);
            due(x.read(tape, 1), 10 + tape);
        }
        for (int tape : new int[] {Due.MIN, -1, 6, Due.MAX}) {
            due(x.tape(tape, INTS, 2), -1);
            due(x.tape(tape, -1, 0), -1);
            due(x.tape(tape, 5, 61), -1);
            due(x.tape(tape, INTS, -1), -1);
            due(x.item(tape, 0, 1), -1);
            due(x.read(tape, 0), Due.NO);
            due(x.judge(tape, 0), -1);
        }
    }

    private static void tapeOfItems() {
        Due.sentence("A TAPE becomes a row of n (0 .. 60) of a sort, all 0");
        SomebodysLift x = new SomebodysLift();
        for (int sort = BYTES; sort <= BOOLEANS; sort++) {
            for (int n : new int[] {0, 1, 60}) {
                due(x.tape(sort, sort, n), 1);
                due(x.read(sort, -1), Due.NO);
                due(x.read(sort, n), Due.NO);
                due(x.item(sort, n, 1), PLACE);
                if (n > 0) {
                    due(x.read(sort, n - 1), 0);
                    due(x.item(sort, n - 1, 1), 1);
                    due(x.read(sort, n - 1), 1);
                }
            }
            due(x.tape(sort, sort, 61), -2);
            due(x.tape(sort, sort, Due.MAX), -2);
            due(x.tape(sort, sort, -1), SIZE);
            due(x.tape(sort, sort, Due.MIN), SIZE);
            due(x.read(sort, 59), 1);
        }
    }

    private static void tapeOfSorts() {
        Due.sentence("NONE: tape; BAD: sort, n above 60; SIZE.");
        SomebodysLift x = new SomebodysLift();
        x.tape(0, LONGS, 1);
        x.item(0, 0, 5);
        for (int sort : new int[] {Due.MIN, -2, 5, Due.MAX}) {
            due(x.tape(0, sort, 0), -2);
            due(x.tape(0, sort, 60), -2);
            due(x.tape(0, sort, 61), -2);
            due(x.tape(0, sort, -1), -2);
        }
        due(x.read(0, 0), 5);
        due(x.tape(6, BYTES, -1), -1);
        due(x.tape(0, BYTES, -1), SIZE);
        due(x.tape(0, BYTES, 61), -2);
        due(x.read(0, 0), 5);
    }

    private static void tapeOfNothing() {
        Due.sentence("or holds nothing (sort -1: n does not matter): 1.");
        SomebodysLift x = new SomebodysLift();
        for (int n : new int[] {Due.MIN, -1, 0, 60, 61, Due.MAX}) {
            due(x.tape(0, -1, n), 1);
            due(x.tape(0, BYTES, 60), 1);
            due(x.item(0, 0, 5), 1);
            due(x.tape(0, -1, n), 1);
            due(x.read(0, 0), Due.NO);
            due(x.item(0, 0, 0), NOTHING);
        }
    }

    private static void tapeIsAllNothing() {
        Due.sentence("of a sort, all 0, or holds nothing");
        SomebodysLift x = new SomebodysLift();
        for (int sort = BYTES; sort <= BOOLEANS; sort++) {
            x.tape(0, LONGS, 60);
            for (int i = 0; i < 60; i += 7) {
                x.item(0, i, -1);
            }
            due(x.tape(0, sort, 60), 1);
            for (int i = 0; i < 60; i += 7) {
                due(x.read(0, i), 0);
            }
        }
        x.item(0, 5, 1);
        x.tape(0, BYTES, 5);
        x.tape(0, BYTES, 6);
        due(x.read(0, 5), 0);
    }

    // ---- items

    private static void item(SomebodysLift x, long v, long want) {
        due(x.item(0, 1, v), 1);
        due(x.read(0, 1), want);
        due(x.read(0, 0), 0);
        due(x.read(0, 2), 0);
    }

    private static void bytesWrap() {
        Due.sentence("(its lowest bits, as many as an item has");
        SomebodysLift x = new SomebodysLift();
        x.tape(0, BYTES, 3);
        long[] vs = {127, 128, 255, 256, -128, -129, -1, 0x7fffff00L, Long.MIN_VALUE, Long.MAX_VALUE, 1L << 32 | 5};
        long[] cut = {127, -128, -1, 0, -128, 127, -1, 0, 0, -1, 5};
        for (int i = 0; i < vs.length; i++) {
            item(x, vs[i], cut[i]);
        }
    }

    private static void shortsWrap() {
        Due.sentence("Item i of a TAPE becomes v (its lowest bits, as many as an item has");
        SomebodysLift x = new SomebodysLift();
        x.tape(0, SHORTS, 3);
        long[] vs = {128, 32767, 32768, 65535, 65536, -32768, -32769, Long.MIN_VALUE, Long.MAX_VALUE};
        long[] cut = {128, 32767, -32768, -1, 0, -32768, 32767, 0, -1};
        for (int i = 0; i < vs.length; i++) {
            item(x, vs[i], cut[i]);
        }
    }

    private static void intsWrap() {
        Due.sentence("becomes v (its lowest bits, as many as an item has");
        SomebodysLift x = new SomebodysLift();
        x.tape(0, INTS, 3);
        long[] vs = {65536, 1L << 31, (1L << 31) - 1, 1L << 32, (1L << 32) - 1, -(1L << 31) - 1, Long.MIN_VALUE,
            Long.MAX_VALUE};
        long[] cut = {65536, Due.MIN, Due.MAX, 0, -1, Due.MAX, 0, -1};
        for (int i = 0; i < vs.length; i++) {
            item(x, vs[i], cut[i]);
        }
    }

    private static void longsStay() {
        Due.sentence("a row of 0 bytes, 1 shorts, 2 ints, 3 longs, 4 booleans");
        SomebodysLift x = new SomebodysLift();
        x.tape(0, LONGS, 3);
        for (long v : new long[] {1L << 32, Long.MAX_VALUE, -1, Long.MIN_VALUE + 1, Long.MIN_VALUE, 0}) {
            item(x, v, v);
        }
        long v = 0x0123456789abcdefL;
        long[] cut = {(byte) 0xef, (short) 0xcdef, 0x89abcdef, v, 1};
        for (int sort = BYTES; sort <= BOOLEANS; sort++) {
            x.tape(0, sort, 3);
            item(x, v, cut[sort]);
        }
    }

    private static void booleansAreTwo() {
        Due.sentence("4 booleans (items 0, 1)");
        SomebodysLift x = new SomebodysLift();
        x.tape(0, BOOLEANS, 3);
        for (long v : new long[] {1, 0, 2, 0, -1, 256, 1L << 32, 0, Long.MIN_VALUE, Long.MAX_VALUE, 0}) {
            item(x, v, v == 0 ? 0 : 1);
        }
    }

    private static void itemRefused() {
        Due.sentence("booleans: whether v is not 0): 1. NONE; NOTHING; PLACE.");
        SomebodysLift x = new SomebodysLift();
        x.tape(0, BYTES, 3);
        x.tape(1, BYTES, 0);
        for (int i : new int[] {Due.MIN, -1, 3, 60, Due.MAX}) {
            due(x.item(0, i, 1), PLACE);
            due(x.item(1, i, 1), PLACE);
            due(x.item(2, i, 1), NOTHING);
            due(x.item(6, i, 1), -1);
            due(x.item(-1, i, 1), -1);
        }
        due(x.item(1, 0, 1), PLACE);
        due(x.item(2, 0, 1), NOTHING);
        for (int i = 0; i < 3; i++) {
            due(x.read(0, i), 0);
        }
    }

    private static void readRefused() {
        Due.sentence("Item i of a TAPE. NO: no such TAPE, nothing there, no such place.");
        SomebodysLift x = new SomebodysLift();
        x.tape(0, LONGS, 3);
        x.item(0, 2, 7);
        due(x.read(0, 2), 7);
        for (int i : new int[] {Due.MIN, -1, 3, 60, Due.MAX}) {
            due(x.read(0, i), Due.NO);
        }
        for (int tape : new int[] {Due.MIN, -1, 1, 5, 6, Due.MAX}) {
            due(x.read(tape, 2), Due.NO);
        }
        x.tape(0, LONGS, 0);
        due(x.read(0, 0), Due.NO);
        x.tape(0, -1, 0);
        due(x.read(0, 0), Due.NO);
    }

    // ---- shifting

    private static SomebodysLift rows() {
        SomebodysLift x = new SomebodysLift();
        x.tape(0, INTS, 6);
        x.tape(1, INTS, 4);
        for (int i = 0; i < 6; i++) {
            x.item(0, i, 10 + i);
        }
        return x;
    }

    private static void rowIs(SomebodysLift x, int tape, int... items) {
        for (int i = 0; i < items.length; i++) {
            due(x.read(tape, i), items[i]);
        }
    }

    private static void shiftAsBefore() {
        Due.sentence("n items of a TAPE from i on come to another one (or the same) from j on, as they all were before: n.");
        SomebodysLift x = rows();
        due(x.shift(0, 0, 0, 1, 5), 5);
        rowIs(x, 0, 10, 10, 11, 12, 13, 14);
        x = rows();
        due(x.shift(0, 1, 0, 0, 5), 5);
        rowIs(x, 0, 11, 12, 13, 14, 15, 15);
        x = rows();
        due(x.shift(0, 0, 0, 2, 3), 3);
        rowIs(x, 0, 10, 11, 10, 11, 12, 15);
        due(x.shift(0, 0, 0, 0, 6), 6);
        rowIs(x, 0, 10, 11, 10, 11, 12, 15);
        x = rows();
        due(x.shift(0, 2, 1, 1, 2), 2);
        rowIs(x, 1, 0, 12, 13, 0);
        rowIs(x, 0, 10, 11, 12, 13, 14, 15);
    }

    private static void shiftToTheEnd() {
        Due.sentence("PLACE: n, i or j is below 0, or beyond either's end.");
        SomebodysLift x = rows();
        due(x.shift(0, 2, 1, 0, 4), 4);
        rowIs(x, 1, 12, 13, 14, 15);
        due(x.shift(0, 3, 1, 0, 4), PLACE);
        due(x.shift(0, 0, 1, 0, 5), PLACE);
        due(x.shift(0, 0, 1, 1, 4), PLACE);
        due(x.shift(0, 0, 0, 0, 7), PLACE);
        due(x.shift(1, 0, 0, 3, 4), PLACE);
        due(x.shift(1, 0, 0, 2, 4), 4);
        due(x.shift(0, 0, 1, 0, -1), PLACE);
        due(x.shift(0, -1, 1, 0, 1), PLACE);
        due(x.shift(0, 0, 1, -1, 1), PLACE);
        due(x.shift(0, -1, 1, 0, 0), PLACE);
        due(x.shift(0, 0, 1, -1, 0), PLACE);
        due(x.shift(0, 6, 1, 0, 1), PLACE);
        due(x.shift(0, 0, 1, 4, 1), PLACE);
        // Where a sum of two of these would be less than either.
        due(x.shift(0, Due.MAX, 1, 0, 1), PLACE);
        due(x.shift(0, 0, 1, Due.MAX, 1), PLACE);
        due(x.shift(0, 1, 1, 1, Due.MAX), PLACE);
        due(x.shift(0, Due.MAX, 1, Due.MAX, Due.MAX), PLACE);
        due(x.shift(0, Due.MIN, 1, Due.MIN, Due.MIN), PLACE);
        due(x.shift(0, 0, 1, 0, Due.MIN), PLACE);
        rowIs(x, 0, 10, 11, 12, 13, 14, 15);
        rowIs(x, 1, 12, 13, 14, 15);
    }

    private static void shiftOfNone() {
        Due.sentence("as they all were before: n.");
        SomebodysLift x = rows();
        due(x.shift(0, 0, 1, 0, 0), 0);
        due(x.shift(0, 6, 1, 4, 0), 0);
        due(x.shift(0, 7, 1, 4, 0), PLACE);
        due(x.shift(0, 6, 1, 5, 0), PLACE);
        due(x.shift(0, Due.MAX, 1, 0, 0), PLACE);
        x.tape(2, INTS, 0);
        due(x.shift(2, 0, 2, 0, 0), 0);
        due(x.shift(2, 0, 0, 0, 0), 0);
        due(x.shift(2, 0, 0, 0, 1), PLACE);
        due(x.shift(2, 1, 0, 0, 0), PLACE);
        rowIs(x, 0, 10, 11, 12, 13, 14, 15);
        rowIs(x, 1, 0, 0, 0, 0);
    }

    private static void shiftCast() {
        Due.sentence("CAST: of unlike sorts");
        SomebodysLift x = new SomebodysLift();
        for (int sort = BYTES; sort <= BOOLEANS; sort++) {
            x.tape(sort, sort, 3);
        }
        for (int sort = BYTES; sort <= BOOLEANS; sort++) {
            for (int other = BYTES; other <= BOOLEANS; other++) {
                due(x.shift(sort, 0, other, 0, 3), sort == other ? 3 : CAST);
                due(x.shift(sort, 0, other, 0, 0), sort == other ? 0 : CAST);
                due(x.shift(sort, -1, other, 9, 99), sort == other ? PLACE : CAST);
            }
        }
    }

    private static void shiftNothing() {
        Due.sentence("NOTHING (-11): nothing is there");
        SomebodysLift x = rows();
        due(x.shift(0, 0, 2, 0, 1), NOTHING);
        due(x.shift(2, 0, 0, 0, 1), NOTHING);
        due(x.shift(2, 0, 2, 0, 0), NOTHING);
        due(x.shift(0, -1, 2, -1, -1), NOTHING);
        due(x.shift(2, -1, 0, 99, 99), NOTHING);
        // A row of none is something.
        x.tape(2, INTS, 0);
        due(x.shift(0, 0, 2, 0, 0), 0);
    }

    private static void shiftNone() {
        Due.sentence("NONE: tapes; NOTHING; CAST: of unlike sorts; PLACE");
        SomebodysLift x = rows();
        for (int tape : new int[] {Due.MIN, -1, 6, Due.MAX}) {
            due(x.shift(tape, 0, 0, 0, 1), -1);
            due(x.shift(0, 0, tape, 0, 1), -1);
            due(x.shift(tape, 0, 5, 0, 1), -1);
            due(x.shift(5, 0, tape, 0, 1), -1);
            due(x.shift(tape, -1, tape, -1, -1), -1);
        }
        rowIs(x, 0, 10, 11, 12, 13, 14, 15);
    }

    // ---- judging

    /** LIFTS at the MILES 10, 99 and 0. */
    private static SomebodysLift threeMiles() {
        SomebodysLift x = Due.with(0, 0, 10, 0);
        x.lift(0, 0, 99, 0);
        x.lift(0, 0, 0, 0);
        return x;
    }

    private static void tell(SomebodysLift x, int sort, int... items) {
        x.tape(0, sort, items.length);
        for (int i = 0; i < items.length; i++) {
            x.item(0, i, items[i]);
        }
    }

    private static void judgedOtherwise() {
        Due.sentence("MILES of LIFTS told by a row of bytes, from a place on, LIFT by LIFT, are JUDGED: "
            + "the first that is otherwise");
        SomebodysLift x = threeMiles();
        tell(x, BYTES, 11, 99, 0);
        due(x.judge(0, 0), 0);
        tell(x, BYTES, 10, 98, 0);
        due(x.judge(0, 0), 1);
        tell(x, BYTES, 10, 99, 1);
        due(x.judge(0, 0), 2);
        tell(x, BYTES, 11, 98, 1);
        due(x.judge(0, 0), 0);
        tell(x, BYTES, 10, 98, 1);
        due(x.judge(0, 0), 1);
        tell(x, BYTES, -10, 99, 0);
        due(x.judge(0, 0), 0);
        tell(x, BYTES, 9, 9, 10, 99, 0, 9);
        due(x.judge(0, 0), 0);
        due(x.judge(0, 2), -5);
        due(x.judge(0, 3), 0);
        // Otherwise ahead of the end.
        tell(x, BYTES, 10, 98);
        due(x.judge(0, 0), 1);
        due(x.judge(0, 1), 0);
    }

    private static void judgedNone() {
        Due.sentence("-5: none, or there is none to look at");
        SomebodysLift x = threeMiles();
        tell(x, BYTES, 10, 99, 0);
        due(x.judge(0, 0), -5);
        tell(x, BYTES, 7, 10, 99, 0);
        due(x.judge(0, 1), -5);
        tell(x, BYTES, 10, 99, 0, 7);
        due(x.judge(0, 0), -5);
        // No LIFTS.
        x = new SomebodysLift();
        x.tape(0, BYTES, 2);
        due(x.judge(0, 0), -5);
        due(x.judge(0, 1), -5);
        x.tape(0, BYTES, 0);
        due(x.judge(0, 0), -5);
    }

    private static void judgedTillTheEnd() {
        Due.sentence("100 and how many were looked at, if the row ends ahead of that");
        SomebodysLift x = threeMiles();
        tell(x, BYTES, 10, 99);
        due(x.judge(0, 0), 102);
        tell(x, BYTES, 10);
        due(x.judge(0, 0), 101);
        tell(x, BYTES);
        due(x.judge(0, 0), 100);
        tell(x, BYTES, 7, 10, 99);
        due(x.judge(0, 1), 102);
        due(x.judge(0, 3), 100);
        due(x.judge(0, 4), 100);
        due(x.judge(0, 60), 100);
        due(x.judge(0, Due.MAX), 100);
        due(x.judge(0, Due.MAX - 1), 100);
        tell(x, BYTES, 7, 7, 10);
        due(x.judge(0, 2), 101);
        // Six, of 60.
        x = new SomebodysLift();
        for (int n = 0; n < 6; n++) {
            x.lift(0, 0, 0, 0);
        }
        x.tape(5, BYTES, 60);
        due(x.judge(5, 54), -5);
        due(x.judge(5, 55), 105);
        due(x.judge(5, 59), 101);
        due(x.judge(5, 60), 100);
    }

    private static void judgedFromBelow() {
        Due.sentence("(or the place is below 0, or the TAPE holds nothing)");
        SomebodysLift x = threeMiles();
        tell(x, BYTES, 10, 99, 0);
        due(x.judge(0, -1), 100);
        due(x.judge(0, -2), 100);
        due(x.judge(0, Due.MIN), 100);
        due(x.judge(0, Due.MIN + 1), 100);
    }

    private static void judgedNothing() {
        Due.sentence("or the TAPE holds nothing)");
        SomebodysLift x = threeMiles();
        for (int i : new int[] {Due.MIN, -1, 0, 1, Due.MAX}) {
            due(x.judge(0, i), 100);
            due(x.judge(5, i), 100);
        }
        tell(x, BYTES, 10, 99, 0);
        due(x.judge(0, 0), -5);
        x.tape(0, -1, 0);
        due(x.judge(0, 0), 100);
    }

    private static void judgedCast() {
        Due.sentence("JUDGED from place i of a TAPE on. NONE: tape; CAST: it is no row of bytes.");
        SomebodysLift x = threeMiles();
        for (int sort = SHORTS; sort <= BOOLEANS; sort++) {
            tell(x, sort, 10, 99, 0);
            due(x.judge(0, 0), CAST);
            due(x.judge(0, 1), CAST);
            due(x.judge(0, -1), CAST);
            due(x.judge(0, 9), CAST);
            x.tape(0, sort, 0);
            due(x.judge(0, 0), CAST);
        }
        x = new SomebodysLift();
        x.tape(0, SHORTS, 3);
        due(x.judge(0, 0), CAST);
    }

    private static void judgedNoTape() {
        Due.sentence("NONE: tape; CAST: it is no row of bytes.");
        SomebodysLift x = threeMiles();
        for (int tape : new int[] {Due.MIN, -1, 6, Due.MAX}) {
            due(x.judge(tape, 0), -1);
            due(x.judge(tape, -1), -1);
            due(new SomebodysLift().judge(tape, 0), -1);
        }
    }
}
