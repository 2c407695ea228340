/** The bounds of THE TEXT and of AIRS: one test for each sentence that names one. */
final class BoundsOfAirs {
    private static final String ONE = "base 1", UP = "up 1 l=0";
    private static final int AN_AIR = 0;

    private BoundsOfAirs() {
    }

    static void all() {
        textOfAHundred();
        airOfAHundred();
        signsAreSevenBits();
        clausesAreOneToTen();
        signBetweenClauses();
        words();
        oneBlankAhead();
        nOfOneOrTwoDigits();
        numberOfOneOrTwoDigits();
        partsOfClauses();
        termsAndFactors();
        tests();
        andBindsMore();
        notBindsMost();
        heightByFifty();
        minuteByTen();
        mileByTen();
        numberKindAndV();
        relations();
        withinFourOthers();
        faultAtTheFirstByte();
        faultAtTheEnd();
        newestHolds();
        airsAreSix();
        withoutOneNoClauses();
        everyUpAndDown();
        baseWithout();
        baseOfTheLast();
        baseOfFourHundred();
        safeWithout();
        safeOfTheLast();
        textIsEmptyThen();
        textStays();
        theOneThatHeldHolds();
    }

    private static void due(long got, long want) {
        Due.due(got, want);
    }

    /** What a text is answered on a new object, where -10 less the FAULT stands for one. */
    private static void read(String text, int want) {
        due(Due.air(new SomebodysLift(), text), want);
    }

    private static int fault(int place) {
        return -10 - place;
    }

    private static String times(String part, int n) {
        return part.repeat(n);
    }

    // ---- the text

    private static void textOfAHundred() {
        Due.sentence("An AIR is read from THE TEXT (bytes, 100 at most)");
        SomebodysLift x = new SomebodysLift();
        due(x.count(5), 0);
        for (int n = 1; n <= 100; n++) {
            due(x.feed('!'), n);
        }
        due(x.feed('!'), -4);
        due(x.feed(0), -4);
        due(x.count(5), 100);
    }

    private static void airOfAHundred() {
        Due.sentence("(bytes, 100 at most)");
        String and = times("&l=0", 20);
        String[] texts = {"up 11 l=00" + and + "|l=00&l=01", "up 11 l=01" + and + "|l=00&l=01",
            "up 11 l=01" + and + "|l=00&l=00"};
        int[] gains = {11, 0, 11};
        SomebodysLift x = Due.with(0, 0, 0, 0);
        for (int n = 0; n < texts.length; n++) {
            Due.feed(x, texts[n]);
            due(x.count(5), 100);
            due(x.air(), n);
            due(x.of(0, 4), gains[n]);
        }
        due(Due.air(x, times("up 9 l=0;", 9) + "up 9 l=0|l=00000000"), fault(94));
    }

    private static void signsAreSevenBits() {
        Due.sentence("A sign (0 .. 127) comes behind THE TEXT's: how many it has. BAD; FULL.");
        SomebodysLift x = new SomebodysLift();
        due(x.feed(0), 1);
        due(x.feed(127), 2);
        for (int sign : new int[] {Due.MIN, -128, -1, 128, 'u' + 256, Due.MAX}) {
            due(x.feed(sign), -2);
        }
        due(x.count(5), 2);
        for (int n = 3; n <= 100; n++) {
            x.feed(0);
        }
        due(x.feed(128), -2);
        due(x.feed(-1), -2);
        due(x.feed(127), -4);
        due(x.count(5), 100);
        // Each sign comes behind the others, and none else.
        x = new SomebodysLift();
        x.feed('b');
        x.feed('a' + 256);
        Due.feed(x, "ase ");
        due(x.feed('5'), 6);
        due(x.air(), 0);
        due(x.told(5), 50);
    }

    // ---- how an air is told

    private static void clausesAreOneToTen() {
        Due.sentence("CLAUSES, 1 to 10, with ; between");
        read("", fault(0));
        read(ONE, AN_AIR);
        for (int n = 2; n <= 10; n++) {
            read(times(ONE + ";", n - 1) + ONE, AN_AIR);
        }
        read(times(ONE + ";", 10) + ONE, fault(69));
        read(times(ONE + ";", 10), fault(69));
        SomebodysLift x = Due.with(0, 0, 0, 0);
        due(Due.air(x, times(UP + ";", 9) + UP), 0);
        due(x.of(0, 4), 10);
        due(Due.air(x, times(UP + ";", 10) + UP), fault(89));
    }

    private static void signBetweenClauses() {
        Due.sentence("with ; between");
        read(";", fault(0));
        read(ONE + ";", fault(7));
        read(";" + ONE, fault(0));
        read(ONE + ";;" + ONE, fault(7));
        read(ONE + "; " + ONE, fault(7));
        read(ONE + " ;" + ONE, fault(6));
        read(ONE + "," + ONE, fault(6));
        read(ONE + ONE, fault(6));
        read(UP + UP, fault(8));
        read(UP + ";" + UP, AN_AIR);
    }

    private static void words() {
        Due.sentence("up n E; down n E; base n; safe n");
        String[] whole = {"up 1 l=0", "down 1 l=0", "base 1", "safe 1"};
        for (String text : whole) {
            read(text, AN_AIR);
            int blank = text.indexOf(' ');
            for (int i = 0; i < blank; i++) {
                read(text.substring(0, i) + "x" + text.substring(i + 1), fault(i));
                read(text.substring(0, i) + Character.toUpperCase(text.charAt(i)) + text.substring(i + 1), fault(i));
                read(text.substring(0, i), fault(i));
            }
        }
        read(" up 1 l=0", fault(0));
        read("upp 1 l=0", fault(2));
        read("uown 1 l=0", fault(1));
        read("sase 1", fault(2));
    }

    private static void oneBlankAhead() {
        Due.sentence("(one blank ahead of each part behind the word; n 1 or 2 digits)");
        read("up1 l=0", fault(2));
        read("up  1 l=0", fault(3));
        read("up 1l=0", fault(4));
        read("up 1  l=0", fault(5));
        read("up 1 l=0 ", fault(8));
        read("up\t1 l=0", fault(2));
        read("up 12l=0", fault(5));
        read("base1", fault(4));
        read("base  1", fault(5));
        read("base 1 ", fault(6));
        read("safe1", fault(4));
        read("safe  1", fault(5));
        read("down1 l=0", fault(4));
        read("up 1 l =0", fault(6));
        read("up 1 l= 0", fault(7));
        read("up 1 ! l=0", fault(6));
        read("up 1 ( l=0)", fault(6));
        read("up 1 l=0 &l=0", fault(8));
    }

    private static void nOfOneOrTwoDigits() {
        Due.sentence("n 1 or 2 digits");
        read("base ", fault(5));
        read("base x", fault(5));
        read("base 0", AN_AIR);
        read("base 00", AN_AIR);
        read("base 000", fault(7));
        read("base 123", fault(7));
        read("base 1x", fault(6));
        read("base -1", fault(5));
        read("base +1", fault(5));
        read("base /", fault(5));
        read("base :", fault(5));
        read("up  l=0", fault(3));
        read("up 123 l=0", fault(5));
        read("down 100 l=0", fault(7));
        read("safe 100", fault(7));
        due(Due.with(0, 0, 0, 0, "up 9 l=0").of(0, 4), 9);
        due(Due.with(0, 0, 0, 0, "up 99 l=0").of(0, 4), 99);
        due(Due.with(0, 0, 0, 0, "up 09 l=0").of(0, 4), 9);
        due(Due.with(0, 0, 0, 0, "up 90 l=0").of(0, 4), 90);
        due(Due.with(0, 0, 0, 0, "down 00 l=0").of(0, 4), 0);
        due(Due.with(0, 0, 0, 0, "down 99 l=0").of(0, 4), -99);
    }

    private static void numberOfOneOrTwoDigits() {
        Due.sentence("a letter, < or = or >, a number (1 or 2 digits)");
        read("up 1 l=", fault(7));
        read("up 1 l=x", fault(7));
        read("up 1 l=-1", fault(7));
        read("up 1 l=0", AN_AIR);
        read("up 1 l=00", AN_AIR);
        read("up 1 l=99", AN_AIR);
        read("up 1 l=000", fault(9));
        read("up 1 l=100", fault(9));
        due(Due.with(0, 9, 0, 0, "up 1 v=9").of(0, 4), 1);
        due(Due.with(0, 9, 0, 0, "up 1 v=09").of(0, 4), 1);
        due(Due.with(0, 9, 0, 0, "up 1 v=90").of(0, 4), 0);
        due(Due.with(0, 9, 0, 0, "up 1 v<10").of(0, 4), 1);
        due(Due.with(0, 9, 0, 0, "up 1 v>99").of(0, 4), 0);
    }

    private static void partsOfClauses() {
        Due.sentence("up n E; down n E; base n; safe n (one blank ahead of each part behind the word");
        read("up 1", fault(4));
        read("up 1;" + ONE, fault(4));
        read("up l=0", fault(3));
        read("down 1", fault(6));
        read("down 1;" + ONE, fault(6));
        read("base 1 l=0", fault(6));
        read("safe 1 l=0", fault(6));
        read("base", fault(4));
        read("base;" + ONE, fault(4));
    }

    private static void termsAndFactors() {
        Due.sentence("E: T or T|E. T: F or F&T. F: !F, (E), or a TEST");
        read("up 1 |l=0", fault(5));
        read("up 1 &l=0", fault(5));
        read("up 1 l=0|", fault(9));
        read("up 1 l=0&", fault(9));
        read("up 1 l=0||l=0", fault(9));
        read("up 1 l=0&&l=0", fault(9));
        read("up 1 l=0|&l=0", fault(9));
        read("up 1 l=0&|l=0", fault(9));
        read("up 1 l=0l=0", fault(8));
        read("up 1 l=0!l=0", fault(8));
        read("up 1 l=0(l=0)", fault(8));
        read("up 1 !", fault(6));
        read("up 1 !&l=0", fault(6));
        read("up 1 ()", fault(6));
        read("up 1 (l=0", fault(9));
        read("up 1 (l=0;" + ONE, fault(9));
        read("up 1 l=0)", fault(8));
        read("up 1 (l=0))", fault(10));
        read("up 1 (l=0|)", fault(10));
        read("up 1 (l=0&", fault(10));
        read("up 1 (l=0)|", fault(11));
        read("up 1 (l=0)l=0", fault(10));
        read("up 1 !(l=0)&!!l=0|(!l=0|l=0&(l=0))", AN_AIR);
    }

    private static void tests() {
        Due.sentence("or a TEST: a letter, < or = or >");
        for (char letter = 1; letter < 128; letter++) {
            if (letter != '(' && letter != '!') {
                read("up 1 " + letter + "=0", "lkhtvm".indexOf(letter) >= 0 ? AN_AIR : fault(5));
            }
        }
        for (char relation = 0; relation < 128; relation++) {
            read("up 1 l" + relation + "0", "<=>".indexOf(relation) >= 0 ? AN_AIR : fault(6));
        }
        read("up 1 l", fault(6));
        read("up 1 l==0", fault(7));
        read("up 1 l<=0", fault(7));
        read("up 1 0=l", fault(5));
        read("up 1 lk=0", fault(6));
    }

    // ---- when it holds

    /** Whether what stands behind up 1 holds for the only LIFT, at HEIGHT 100 and MINUTE 0. */
    private static void holds(String e, int want) {
        due(Due.with(0, 0, 0, 0, "up 1 " + e).of(0, 4), want);
    }

    private static void andBindsMore() {
        Due.sentence("E: T or T|E. T: F or F&T.");
        String[] so = {"v>0", "v=0"};
        for (int n = 0; n < 16; n++) {
            boolean a = (n & 1) != 0;
            boolean b = (n & 2) != 0;
            boolean c = (n & 4) != 0;
            boolean d = (n & 8) != 0;
            String e = so[n & 1] + "%" + so[n >> 1 & 1] + "%" + so[n >> 2 & 1] + "%" + so[n >> 3 & 1];
            holds(e.replaceFirst("%", "|").replaceFirst("%", "&").replaceFirst("%", "|"), a || b && c || d ? 1 : 0);
            holds(e.replaceFirst("%", "&").replaceFirst("%", "|").replaceFirst("%", "&"), a && b || c && d ? 1 : 0);
            holds(e.replaceFirst("%", "|").replaceFirst("%", "|").replaceFirst("%", "&"), a || b || c && d ? 1 : 0);
            holds("(" + e.replaceFirst("%", "|").replaceFirst("%", ")&(").replaceFirst("%", "|") + ")",
                (a || b) && (c || d) ? 1 : 0);
            holds(e.replaceFirst("%", "&(").replaceFirst("%", "|").replaceFirst("%", "&") + ")",
                a && (b || c && d) ? 1 : 0);
        }
    }

    private static void notBindsMost() {
        Due.sentence("F: !F, (E)");
        holds("!v=0", 0);
        holds("!v>0", 1);
        holds("!!v=0", 1);
        holds("!!!!v=0", 1);
        holds("!!!v=0", 0);
        holds("!v>0&v>0", 0);
        holds("!(v>0&v>0)", 1);
        holds("!v=0|v=0", 1);
        holds("!(v=0|v=0)", 0);
        holds("v=0&!v=0", 0);
        holds("!(!(v=0)|v>0)", 1);
        holds("v=0&(v=0)", 1);
        holds("v=0&(v>0)", 0);
        holds("v>0&(v=0)", 0);
        holds("(v=0)&(v=0)", 1);
        holds("v>0|(v=0&(v=0))", 1);
        holds("v=0&(v=0&!(v>0))", 1);
    }

    private static void heightByFifty() {
        Due.sentence("h HEIGHT by 50 (cut)");
        SomebodysLift x = Due.with(0, 0, 0, 0, "up 1 h>0;up 1 h>1;up 1 h>6;up 1 h>7;up 10 h=8;up 40 h=9");
        int[] heights = {0, 49, 50, 99, 100, 349, 350, 399, 400};
        int[] gains = {0, 0, 1, 1, 2, 2, 3, 3, 14};
        for (int i = 0; i < heights.length; i++) {
            x.height(heights[i]);
            due(x.of(0, 4), gains[i]);
        }
    }

    private static void minuteByTen() {
        Due.sentence("t MINUTE by 10 (cut; 99 at most)");
        SomebodysLift x = Due.with(0, 0, 0, 0, "up 1 t>0;up 2 t=98;up 4 t=99;up 8 t>98;up 16 t>99");
        int[] minutes = {0, 9, 10, 19, 979, 980, 989, 990, 999, 1000, 1009, 1010, 9999};
        int[] gains = {0, 0, 1, 1, 1, 3, 3, 13, 13, 13, 13, 13, 13};
        for (int i = 0; i < minutes.length; i++) {
            Due.later(x, 0, minutes[i] - x.told(0), 0);
            due(x.told(0), minutes[i]);
            due(x.of(0, 4), gains[i]);
        }
    }

    private static void mileByTen() {
        Due.sentence("m its MILE by 10 (cut)");
        int[] miles = {0, 9, 10, 89, 90, 99};
        int[] gains = {1, 1, 2, 4, 8, 8};
        for (int i = 0; i < miles.length; i++) {
            due(Due.with(0, 0, miles[i], 0, "up 1 m=0;up 2 m=1;up 4 m=8;up 8 m=9;up 16 m>9").of(0, 4), gains[i]);
        }
    }

    private static void numberKindAndV() {
        Due.sentence("of a LIFT l its number, k its KIND");
        SomebodysLift x = new SomebodysLift();
        for (int n = 0; n < 6; n++) {
            x.lift(n + 1, 9 - n, 0, 0);
        }
        for (int n = 0; n < 6; n++) {
            Due.air(x, "up 1 l=" + n + ";up 10 k=" + (n + 1) + ";up 30 v=" + (9 - n));
            for (int other = 0; other < 6; other++) {
                due(x.of(other, 4), other == n ? 41 : 0);
            }
        }
        due(Due.with(0, 0, 0, 0, "up 1 k=0").of(0, 4), 1);
        due(Due.with(0, 0, 0, 0, "up 1 v=0").of(0, 4), 1);
    }

    private static void relations() {
        Due.sentence("a letter, < or = or >, a number");
        for (int n = 4; n <= 6; n++) {
            due(Due.with(0, 5, 0, 0, "up 1 v<" + n).of(0, 4), n == 6 ? 1 : 0);
            due(Due.with(0, 5, 0, 0, "up 1 v=" + n).of(0, 4), n == 5 ? 1 : 0);
            due(Due.with(0, 5, 0, 0, "up 1 v>" + n).of(0, 4), n == 4 ? 1 : 0);
        }
        holds("v<0", 0);
        holds("v>0", 0);
    }

    private static void withinFourOthers() {
        Due.sentence("A ( or ! within 4 others is none.");
        read("up 1 !!!!l=0", AN_AIR);
        read("up 1 !!!!!l=0", fault(9));
        read("up 1 ((((l=0))))", AN_AIR);
        read("up 1 (((((l=0)))))", fault(9));
        read("up 1 !!!!(l=0)", fault(9));
        read("up 1 ((((!l=0))))", fault(9));
        read("up 1 !(!(l=0))", AN_AIR);
        read("up 1 !(!(!l=0))", fault(9));
        read("up 1 !(!((l=0)))", fault(9));
        read("up 1 (((l=0|(l=0))))", AN_AIR);
        read("up 1 ((((l=0|(l=0)))))", fault(13));
        // Only those count that it is within: not what is shut, nor what stands ahead.
        read("up 1 ((((l=0))))&((((l=0))))", AN_AIR);
        read("up 1 !!!!l=0|!!!!l=0", AN_AIR);
        read("up 1 (!!!l=0&!!!l=0)", AN_AIR);
        read("up 1 (!!!l=0&!!!!l=0)", fault(16));
        read("up 1 (((l=0)&(!l=0)))&((((l=0))))", AN_AIR);
        read("up 1 !!!!l=0;down 1 !!!!l=0", AN_AIR);
    }

    private static void faultAtTheFirstByte() {
        Due.sentence("The FAULT: the place of the first byte with which none begins so");
        String text = "up 12 !(l<1|k=2)&h>30;safe 9";
        read(text, AN_AIR);
        for (int i = 0; i < text.length(); i++) {
            char wrong = text.charAt(i) == ')' ? ';' : '\u007f';
            read(text.substring(0, i) + wrong + text.substring(i + 1), fault(i));
        }
        read("xxxx", fault(0));
        read("\0", fault(0));
        read("up 1 x=1;x", fault(5));
        read(ONE + ";x;x", fault(7));
    }

    private static void faultAtTheEnd() {
        Due.sentence("(the end of THE TEXT, if it ends too early)");
        String text = "down 1 !(l<1|k=2)&h>3;base 5";
        for (int i = 0; i < text.length(); i++) {
            boolean isAir = i == text.indexOf('&') || i == text.indexOf(';');
            read(text.substring(0, i), isAir ? AN_AIR : fault(i));
        }
        read(text, AN_AIR);
        String full = "up 11 l=0" + times("&l=0", 22);
        read(full + "&l", fault(99));
        read(full + "&l=", fault(100));
    }

    // ---- which airs there are

    private static void newestHolds() {
        Due.sentence("The newest AIR holds (6 at most)");
        SomebodysLift x = Due.with(0, 0, 0, 0);
        for (int n = 0; n < 6; n++) {
            due(Due.air(x, "up " + (n + 1) + " l=0;base " + (n + 30) + ";safe " + n), n);
            due(x.of(0, 4), n + 1);
            due(x.told(5), 300 + 10 * n);
            due(x.told(6), 10 * n);
        }
    }

    private static void airsAreSix() {
        Due.sentence("FULL: there are 6 (THE TEXT stays)");
        SomebodysLift x = Due.with(0, 0, 0, 0);
        for (int n = 0; n < 6; n++) {
            due(x.count(1), n);
            due(Due.air(x, "up " + (n + 1) + " l=0"), n);
        }
        due(Due.air(x, "up 9 l=0"), -4);
        due(x.count(1), 6);
        due(x.of(0, 4), 6);
        // Texts with a FAULT, and none at all, too.
        due(Due.air(x, "x"), -4);
        due(x.count(1), 6);
        due(x.of(0, 4), 6);
    }

    private static void withoutOneNoClauses() {
        Due.sentence("without one there are no CLAUSES");
        SomebodysLift x = Due.with(0, 9, 99, 7);
        due(x.of(0, 4), 7);
        due(x.told(5), 400);
        due(x.told(6), 80);
        Due.air(x, "up 1 l=0;base 3;");
        due(x.of(0, 4), 7);
        due(x.told(5), 400);
        due(x.told(6), 80);
    }

    private static void everyUpAndDown() {
        Due.sentence("PULL, and the n of all up whose E holds, less those of all down, together");
        SomebodysLift x = Due.with(0, 1, 0, 9);
        x.lift(0, 2, 0, 4);
        Due.air(x, "up 1 l=0;down 2 l=1;up 4 l<2;down 8 v=2;up 16 v=1;up 32 v>2;down 64 l>1");
        due(x.of(0, 4), 9 + 1 + 4 + 16);
        due(x.of(1, 4), 4 - 2 + 4 - 8);
    }

    private static void baseWithout() {
        Due.sentence("BASE (40 without)");
        SomebodysLift x = Due.with(0, 0, 0, 20);
        due(x.told(5), 400);
        due(x.up(0, 60), 400);
        due(Due.air(x, "base 20"), 0);
        due(x.told(5), 200);
        due(x.up(0, 60), 200);
        due(Due.air(x, "up 1 l=0;safe 2"), 1);
        due(x.told(5), 400);
        due(x.up(0, 60), 400);
    }

    private static void baseOfTheLast() {
        Due.sentence("10 times the last n is how high one can climb");
        SomebodysLift x = Due.with(0, 0, 0, 20, "base 39;base 12;safe 4;base 21;up 1 l=0");
        due(x.told(5), 210);
        due(x.up(0, 60), 210);
        Due.air(x, "base 21;base 39");
        due(x.told(5), 390);
        due(x.up(0, 60), 390);
        Due.air(x, "base 39;base 0");
        due(x.told(5), 0);
        due(x.up(0, 60), 100);
        Due.air(x, "base 99;base 1");
        due(x.told(5), 10);
    }

    private static void baseOfFourHundred() {
        Due.sentence("is how high one can climb (400 at most)");
        for (int n = 39; n <= 42; n++) {
            SomebodysLift x = Due.with(0, 0, 0, 20, "base " + n);
            due(x.told(5), n == 39 ? 390 : 400);
            due(x.up(0, 60), n == 39 ? 390 : 400);
        }
        SomebodysLift x = Due.with(0, 0, 0, 20, "base 99");
        due(x.told(5), 400);
        x.enter(0);
        due(x.turn(60), 400);
    }

    private static void safeWithout() {
        Due.sentence("SAFE (8 without)");
        SomebodysLift x = Due.with(0, 0, 0, 0);
        due(x.told(6), 80);
        due(x.lowest(0, 1), 80);
        Due.air(x, "safe 20");
        due(x.told(6), 200);
        due(x.lowest(0, 1), 200);
        Due.air(x, "up 1 l=0;base 2");
        due(x.told(6), 80);
        due(x.lowest(0, 1), 80);
    }

    private static void safeOfTheLast() {
        Due.sentence("SAFE (8 without): 10 times the last n.");
        SomebodysLift x = Due.with(0, 0, 0, 0, "safe 9;safe 1;base 4;safe 3;up 1 l=0");
        due(x.told(6), 30);
        due(x.lowest(0, 1), 30);
        Due.air(x, "safe 3;safe 0");
        due(x.told(6), 0);
        due(x.lowest(0, 1), 0);
        // Not 400 at most, as BASE is.
        Due.air(x, "safe 0;safe 99");
        due(x.told(6), 990);
        due(x.lowest(0, 1), -5);
        Due.air(x, "safe 41");
        due(x.told(6), 410);
        Due.air(x, "safe 40");
        due(x.lowest(0, 1), 400);
    }

    private static void textIsEmptyThen() {
        Due.sentence("THE TEXT, which is empty then, is an AIR, and holds: its number.");
        SomebodysLift x = new SomebodysLift();
        due(Due.air(x, "base 12"), 0);
        due(x.count(5), 0);
        due(x.feed('b'), 1);
        due(x.air(), -11);
        due(x.count(5), 0);
        due(x.air(), -10);
        due(Due.air(x, "base 13"), 1);
        due(x.told(5), 130);
        // 100 bytes may come again.
        for (int n = 1; n <= 100; n++) {
            due(x.feed('x'), n);
        }
        due(x.air(), -10);
        due(x.feed('x'), 1);
    }

    private static void textStays() {
        Due.sentence("(THE TEXT stays)");
        SomebodysLift x = new SomebodysLift();
        for (int n = 0; n < 6; n++) {
            due(Due.air(x, ONE), n);
        }
        due(x.air(), -4);
        due(x.count(5), 0);
        Due.feed(x, "safe 5");
        due(x.air(), -4);
        due(x.air(), -4);
        due(x.count(5), 6);
        due(x.feed('0'), 7);
        due(x.told(6), 80);
    }

    private static void theOneThatHeldHolds() {
        Due.sentence("-10 less the FAULT (the one that held holds)");
        SomebodysLift x = Due.with(0, 0, 0, 5, "up 2 l=0;base 30;safe 4");
        due(Due.air(x, "down 5 l=0;base 20;safe 3;"), fault(26));
        due(x.count(1), 1);
        due(x.of(0, 4), 7);
        due(x.told(5), 300);
        due(x.told(6), 40);
        // A FAULT does not take a number, and leaves nothing for the next.
        due(Due.air(x, "up 3 l=0"), 1);
        due(x.of(0, 4), 8);
        due(x.told(5), 400);
        due(x.told(6), 80);
        due(Due.air(x, "x"), fault(0));
        due(x.count(1), 2);
        due(x.of(0, 4), 8);
    }
}
