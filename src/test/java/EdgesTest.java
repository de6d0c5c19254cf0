import java.nio.file.Path;

/**
 * Each sentence of DOC.md that speaks of a boundary case, by itself: the tests name the sentence that they are for,
 * and at the end no words of "Terms", REFUSALS, "Details" and the promises may be left that no test has named.
 */
public final class EdgesTest {
    private EdgesTest() {
    }

    public static void main(String[] args) throws Exception {
        Checks checks = new Checks();
        Document document = new Document(Path.of("../shared/DOC.md"));
        Edges[] all = {new ShelfEdges(checks, document), new TalkEdges(checks, document),
            new MeaningEdges(checks, document), new SayingEdges(checks, document), new OtherEdges(checks, document),
            new StateEdges(checks, document), new RefusalEdges(checks, document)};
        for (Edges edges : all) {
            edges.run();
            edges.fresh();
        }
        checks.about("sentences of the document");
        String left = document.unnamed();
        checks.that("no test is for these:\n" + left, left.isEmpty());
        checks.end();
    }
}
