import java.io.IOException;

/** Every sentence of the document that names an edge, each with a test of its own. */
public final class EdgesTest {
    public static void main(String[] args) throws IOException {
        EdgesOfUse.run();
        EdgesOfCalendars.run();
        EdgesOfAdding.run();
        EdgesOfRowsAndWords.run();
        EdgesOfFeasts.run();
        EdgesOfMoons.run();
        EdgesOfParishes.run();
        EdgesOfPages.run();
        EdgesOfBooks.run();
        EdgesOfLaidDown.run();
        Sentences.areTested();
        Twins.extremesWereAsked();
        Due.end("EdgesTest");
    }
}
