import java.io.IOException;

/** For each sentence of the document that names a bound a test of its own: at the bound, next to it, and far beyond it. */
public final class BoundaryTests {
    private BoundaryTests() {
    }

    public static void main(String[] args) throws IOException {
        Sentences.readDocument("../shared/DOC.md");
        MakingBounds.all();
        ChangeBounds.all();
        SeenBounds.all();
        WitnessBounds.all();
        UseBounds.all();
        LifeBounds.all();
        if (Sentences.finish() > 0) {
            System.exit(1);
        }
    }
}
