import java.util.Arrays;

/** Sweeps over the edges of arrays and texts; the single runs stand in rows.txt. */
final class RowEdges {
    private RowEdges() {
    }

    static void all() {
        objectsShareNothing();
        everyLength();
        everyCopy();
        everyByte();
    }

    private static void objectsShareNothing() {
        String title = Sentence.quote(1, "Creates an object without arrays, texts, documents and saved states");
        MarkScripts first = new MarkScripts();
        long fresh = first.digest();
        first.row(0, 1);
        first.lay(0, 0, 5);
        first.lay(0, 0, 6);
        first.tear(5);
        Calls.type(first, 0, "a(b)");
        first.document(0, 0);
        first.document(1, 0);
        first.price(0, 2);
        first.keep(0);
        MarkScripts second = new MarkScripts();
        Calls.equal(title + ": digest()", second.digest(), fresh);
        Calls.equal(title + ": asked()", second.asked(), 0);
        Calls.equal(title + ": finding()", second.finding(), 0);
        Calls.equal(title + ": findings(1)", second.findings(1), 0);
    }

    /** All lengths of arrays and texts, and the first and last index of each. */
    private static void everyLength() {
        String array = Sentence.quote(2, "Creates an array of n zeros, in place of the one that may be there");
        String text = Sentence.quote(8, "Creates a text of n spaces, in place of the one that may be there");
        for (int n = -2; n <= 63; n++) {
            MarkScripts object = new MarkScripts();
            Calls.equal(array + " row " + n, object.row(5, n), n > 40 ? -1 : n < 0 ? -3 : n);
            Calls.equal(text + " text " + n, object.text(3, n), n > 60 ? -1 : n < 0 ? -3 : n);
            Calls.equal(array + " first of " + n, object.at(5, 0), n >= 1 && n <= 40 ? 1 : -3);
            Calls.equal(array + " last of " + n, object.at(5, n - 1), n >= 1 && n <= 40 ? 1 : -3);
            Calls.equal(array + " behind " + n, object.at(5, n), -3);
            Calls.equal(text + " first of " + n, object.put(3, 0, 32), n >= 1 && n <= 60 ? 1032 : -3);
            Calls.equal(text + " last of " + n, object.put(3, n - 1, 32), n >= 1 && n <= 60 ? 1032 : -3);
            Calls.equal(text + " behind " + n, object.put(3, n, 32), -3);
        }
    }

    /** All copies within an array of four elements, and from there to one of three. */
    private static void everyCopy() {
        String title = Sentence.quote(6, "Copies n elements of an array to another one, or within one array");
        for (int to = 0; to < 2; to++) {
            for (int i = -1; i <= 5; i++) {
                for (int j = -1; j <= 5; j++) {
                    for (int n = 0; n <= 5; n++) {
                        oneCopy(title + " copy(0, " + i + ", " + to + ", " + j + ", " + n + ")", i, to, j, n);
                    }
                }
            }
        }
    }

    private static void oneCopy(String title, int i, int to, int j, int n) {
        int[][] rows = {{1, 2, 3, 4}, {5, 6, 7}};
        MarkScripts object = new MarkScripts();
        for (int r = 0; r < 2; r++) {
            object.row(r, rows[r].length);
            for (int e = 0; e < rows[r].length; e++) {
                object.lay(r, e, rows[r][e]);
            }
        }
        boolean fits = i >= 0 && j >= 0 && i + n <= rows[0].length && j + n <= rows[to].length;
        Calls.equal(title, object.copy(0, i, to, j, n), fits ? 1 : -3);
        if (fits) {
            int[] read = Arrays.copyOfRange(rows[0], i, i + n);
            for (int e = 0; e < n; e++) {
                rows[to][j + e] = read[e];
            }
        }
        for (int r = 0; r < 2; r++) {
            for (int e = 0; e < rows[r].length; e++) {
                object.at(r, e);
                Calls.equal(title + " array " + r + " at " + e, object.asked(), rows[r][e]);
            }
        }
    }

    private static void everyByte() {
        String title = Sentence.quote(9, "Returns the previous byte (-128 to 127) plus 1000");
        MarkScripts object = new MarkScripts();
        object.text(3, 1);
        int before = 32;
        for (int v = -130; v <= 260; v++) {
            Calls.equal(title + " put " + v, object.put(3, 0, v), 1000 + before);
            before = (v + 128 & 255) - 128;
        }
    }
}
