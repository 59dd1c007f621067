/** The sentences of the document's promises, one after the other. */
public final class PromisesTest {
    private static final int PROMISES = 45;

    private PromisesTest() {
    }

    public static void main(String[] args) {
        ChangePromises.all();
        AnswerPromises.all();
        TextPromises.all();
        for (int i = 1; i <= PROMISES; i++) {
            Document.finish("Promise " + i);
        }
        Check.finish();
    }
}
