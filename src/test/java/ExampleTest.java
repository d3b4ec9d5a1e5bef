import java.util.List;

/** The four examples, as they stand in the document: every call with the answer behind it. */
public final class ExampleTest {
    private static final int EXAMPLES = 4;

    public static void main(String[] args) {
        List<List<String>> examples = Page.examples();
        Calls.equal("examples of the document", examples.size(), EXAMPLES);
        for (int n = 0; n < examples.size(); n++) {
            run("example " + (n + 1), examples.get(n));
        }
        Calls.end("ExampleTest");
    }

    private static void run(String title, List<String> calls) {
        for (String call : calls) {
            Calls.equal(title + ": " + call + " is a call with its answer", call.matches("\\w+\\([-0-9, ]*\\) = -?\\d+") ? 1 : 0, 1);
        }
        Calls.equal(title + " has calls", calls.size() > 1 ? 1 : 0, 1);
        Calls.run(title, String.join("; ", calls));
    }
}
