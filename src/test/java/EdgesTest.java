/** Every sentence of the document that a call can break, with the edges it names; see Sentence. */
public final class EdgesTest {
    public static void main(String[] args) {
        for (String file : new String[] {"rows.txt", "documents.txt", "ways.txt", "deeds.txt", "telling.txt"}) {
            Sentence.runFile(file);
        }
        RowEdges.all();
        DocumentEdges.all();
        WayEdges.all();
        DeedEdges.all();
        TellingEdges.all();
        Sentence.checkThatAllAreQuoted();
        Calls.end("EdgesTest");
    }
}
