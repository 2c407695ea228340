import java.io.IOException;

/** For each sentence of the document that names a boundary case a test of its own; the argument: the document. */
public final class BoundsTest {
    private BoundsTest() {
    }

    public static void main(String[] args) throws IOException {
        Due.readDocument(args[0]);
        BoundsOfLifts.all();
        BoundsOfAirs.all();
        BoundsOfFlying.all();
        BoundsOfHome.all();
        BoundsOfRows.all();
        BoundsOfTapes.all();
        BoundsOfAnswers.all();
        System.out.println(Due.told());
        if (!Due.broken.isEmpty()) {
            System.exit(1);
        }
    }
}
