/** For each sentence of the document that names a boundary case a test of its own. */
final class BoundaryTest {
    public static void main(String[] arguments) {
        TermBounds.test();
        CommandTermBounds.test();
        TowerBounds.test();
        SightBounds.test();
        RelayBounds.test();
        SmokeBounds.test();
        CodeBounds.test();
        CommandBounds.test();
        Sentences.dueAllTested(System.getProperty("document", "../shared/DOC.md"));
        Check.finish("BoundaryTest");
    }
}
