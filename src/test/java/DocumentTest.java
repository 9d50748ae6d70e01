/** For each sentence of the document that promises something a test of its own. */
final class DocumentTest {
    public static void main(String[] arguments) {
        testBounds();
        testAnswers();
        Sentences.dueAllTested(System.getProperty("document", "../shared/DOC.md"));
        Check.finish("DocumentTest");
    }

    private static void testBounds() {
        TermBounds.test();
        CommandTermBounds.test();
        TowerBounds.test();
        SightBounds.test();
        RelayBounds.test();
        SmokeBounds.test();
        CodeBounds.test();
        CommandBounds.test();
    }

    private static void testAnswers() {
        TowerAnswers.test();
        SightAnswers.test();
        RelayAnswers.test();
        SmokeAnswers.test();
        CodeAnswers.test();
        CommandAnswers.test();
    }
}
