/** Each sentence of the document, those that name an edge first, with a test of its own. */
public final class EdgesTest {
    private EdgesTest() {
    }

    public static void main(String[] args) {
        EdgesOfTape.run();
        EdgesOfTexts.run();
        EdgesOfLives.run();
        EdgesOfAsked.run();
        EdgesOfKin.run();
        EdgesOfSights.run();
        EdgesOfNumbers.run();
        EdgesOfOrder.run();
        PlainSentences.run();
        Words.finish();
        Check.finish();
    }
}
