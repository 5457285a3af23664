import java.io.IOException;

/** For each sentence of the document that names a boundary case, a test of its own. */
public final class BoundariesTest {
    public static void main(String[] arguments) throws IOException {
        TermsBoundaries.run();
        TextBoundaries.run();
        MatrixBoundaries.run();
        StepBoundaries.run();
        SystemBoundaries.run();
        TextCallBoundaries.run();
        Sentences.compareWithDocument();
        Script.finish();
    }
}
