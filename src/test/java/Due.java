import java.io.IOException;
import java.nio.charset.StandardCharsets;
import java.nio.file.Files;
import java.nio.file.Path;
import java.util.LinkedHashSet;
import java.util.Set;

/** What the tests of the bounds share: the sentence that is looked at, due answers, objects to begin with. */
final class Due {
    static final int MIN = Integer.MIN_VALUE, MAX = Integer.MAX_VALUE;
    static final long NO = Long.MIN_VALUE;
    static final Set<String> broken = new LinkedHashSet<>();
    private static String document = "", sentence = "";
    private static int answers = 0, sentences = 0;

    private Due() {
    }

    static void readDocument(String path) throws IOException {
        String all = new String(Files.readAllBytes(Path.of(path)), StandardCharsets.ISO_8859_1);
        document = all.replaceAll("\\s+", " ");
    }

    /** The words, as they stand in the document, that ask for the answers to come. */
    static void sentence(String words) {
        sentence = words;
        sentences++;
        if (!document.contains(words)) {
            broken.add(words);
            System.out.println("the document does not say: " + words);
        }
    }

    static void due(long got, long want) {
        answers++;
        if (got != want) {
            report("answered " + got + ", due is " + want);
        }
    }

    static void due(String got, String want) {
        answers++;
        if (!got.equals(want)) {
            report("all was " + got + ", due is " + want);
        }
    }

    private static void report(String what) {
        System.out.println("\"" + sentence + "\": " + lines() + " " + what);
        broken.add(sentence);
    }

    /** Where it was asked, from the test on. */
    private static String lines() {
        StringBuilder lines = new StringBuilder();
        for (StackTraceElement line : new Throwable().getStackTrace()) {
            boolean isOfATest = line.getClassName().startsWith("BoundsOf") && !line.getMethodName().equals("due");
            if (isOfATest && !line.getMethodName().equals("all")) {
                lines.insert(0, line.getFileName() + ":" + line.getLineNumber() + " ");
            }
        }
        return lines.toString().trim();
    }

    static String told() {
        return broken.isEmpty() ? "all " + answers + " answers on " + sentences + " sentences are as due"
            : broken.size() + " sentences are broken";
    }

    // ---- objects to begin with

    static void feed(SomebodysLift x, String text) {
        for (int i = 0; i < text.length(); i++) {
            x.feed(text.charAt(i));
        }
    }

    static int air(SomebodysLift x, String text) {
        feed(x, text);
        return x.air();
    }

    /** With one LIFT. */
    static SomebodysLift with(int kind, int v, int mile, int pull) {
        SomebodysLift x = new SomebodysLift();
        x.lift(kind, v, mile, pull);
        return x;
    }

    /** With one LIFT and an AIR. */
    static SomebodysLift with(int kind, int v, int mile, int pull, String text) {
        SomebodysLift x = with(kind, v, mile, pull);
        air(x, text);
        return x;
    }

    /** So many MINUTES later, at a HEIGHT; the LIFT is where the glider is. */
    static void later(SomebodysLift x, int lift, int minutes, int height) {
        x.enter(lift);
        for (int left = minutes; left > 0; left -= 60) {
            x.turn(Math.min(left, 60));
        }
        x.height(height);
    }

    /** With something of all that there is, and an image of other things. */
    static SomebodysLift busy() {
        SomebodysLift x = new SomebodysLift();
        x.lift(6, 3, 0, 4);
        x.lift(4, 9, 4, 8);
        x.lift(5, 1, 8, 12);
        air(x, "up 3 h<3;down 2 t>5;base 35;safe 3");
        x.row(0, 1, 5);
        x.leg(1, 5);
        x.see(7);
        x.book(0, 7);
        x.tape(0, 0, 3);
        x.item(0, 1, 4);
        x.tape(1, 3, 2);
        x.image();
        x.enter(0);
        x.turn(3);
        x.home(12);
        x.height(200);
        x.leg(2, 1);
        x.see(4);
        x.book(2, 6);
        x.book(1, 12);
        x.row(0, 3, 2);
        feed(x, "base 3");
        x.act(0, 1, 5);
        return x;
    }

    /** All that can be asked of an object, so that two that are alike tell the same. */
    static String all(SomebodysLift x) {
        StringBuilder told = new StringBuilder();
        for (int what = 0; what < 7; what++) {
            told.append(x.told(what)).append(' ').append(x.count(what)).append(' ');
        }
        for (int lift = 0; lift < x.count(0); lift++) {
            for (int what = 0; what < 6; what++) {
                told.append(x.of(lift, what)).append(' ');
            }
            told.append(x.up(lift, 4)).append(' ');
        }
        for (int i = 0; i < 6; i++) {
            told.append(x.trace(i)).append(' ').append(x.read(i, 0)).append(' ').append(x.read(i, 1)).append(' ');
        }
        told.append(x.who()).append(' ').append(x.looked()).append(' ');
        return told.append(x.flown(1, 0)).append(' ').append(x.flown(1, 1)).append(' ').append(x.best(2)).toString();
    }

    /** An object on which calls have been made is as one on which none has, now and behind an undo and an AIR. */
    static void unchanged(SomebodysLift x, SomebodysLift twin) {
        due(all(x), all(twin));
        due(x.undo(), twin.undo());
        due(all(x), all(twin));
        due(x.air(), twin.air());
        due(all(x), all(twin));
    }
}
