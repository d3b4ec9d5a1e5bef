/** Every sentence of the document that a call can break, with the edges it names; see Sentence. */
public final class EdgesTest {
    private static final String[] FILES =
        {"opening.txt", "rows.txt", "documents.txt", "ways.txt", "deeds.txt", "telling.txt"};

    public static void main(String[] args) {
        for (String file : FILES) {
            Sentence.runFile(file);
        }
        RowEdges.all();
        DocumentEdges.all();
        WayEdges.all();
        DeedEdges.all();
        TellingEdges.all();
        Sentence.checkThatAllAreQuoted();
        Calls.end("EdgesTest");
    }
}
