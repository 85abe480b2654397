/** Every sentence of the document that names an edge, each with a test of its own. */
public final class EdgesTest {
    public static void main(String[] args) {
        EdgesOfCalendars.run();
        EdgesOfAdding.run();
        EdgesOfRowsAndWords.run();
        EdgesOfFeasts.run();
        Due.end("EdgesTest");
    }
}
