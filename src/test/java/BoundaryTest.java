/** Each sentence of the document that names a boundary, by the number of its promise, with a test of its own. */
public final class BoundaryTest {
    private BoundaryTest() {
    }

    public static void main(String[] args) throws Exception {
        TextBoundaries.all();
        RingBoundaries.all();
        ActBoundaries.all();
        YearBoundaries.all();
        QuestionBoundaries.all();
        if (args.length == 0) {
            Sentence.holdAgainstDocument();
        }
        Check.finish();
    }
}
