import java.util.HashMap;
import java.util.Map;

/** Sweeps over the edges of documents; the single runs stand in documents.txt. */
final class DocumentEdges {
    static final String LABELS = "abcdefghijklmnopqrABCDEFGHIJKLMNOPQR0123456789";

    private static final Map<String, Boolean> VIABLE = new HashMap<>();

    private DocumentEdges() {
    }

    static void all() {
        everyByteAtEachPlace();
        everyShortText();
        everyCast();
    }

    /** Each byte at each sort of place: what may stand there, and where the fault is otherwise. */
    private static void everyByteAtEachPlace() {
        String title = Sentence.quote(0, "A label is a letter a to r or A to R, or a digit");
        for (int v = -128; v <= 127; v++) {
            boolean label = v > 0 && LABELS.indexOf(v) >= 0;
            oneByte(title, "", v, "", label ? -9 : v == ' ' ? 1 : 0);
            oneByte(title, "a", v, "", v == ' ' ? -9 : v == '(' ? 2 : 1);
            oneByte(title, "a(", v, ")", label ? -9 : v == ' ' ? 3 : 2);
            oneByte(title, "a(b", v, ")", label || v == ' ' ? -9 : v == '(' || v == ')' ? 4 : 3);
            oneByte(title, "a(b)", v, "", v == ' ' ? -9 : 4);
            oneByte(title, "a(b(c)", v, ")", label || v == ' ' ? -9 : v == ')' ? 7 : 6);
        }
    }

    private static void oneByte(String title, String before, int v, String behind, int due) {
        MarkScripts object = new MarkScripts();
        Calls.type(object, 2, before + " " + behind);
        object.put(2, before.length(), v);
        String where = title + " " + before + "[" + v + "]" + behind;
        Calls.equal(where + " fault", object.fault(2), due);
        int nodes = (before + behind).replaceAll("[()]", "").length() + (v != ' ' ? 1 : 0);
        Calls.equal(where + " document", object.document(1, 2), due == -9 ? nodes : -4);
    }

    /** All texts of up to six of these bytes, against the definition of the fault. */
    private static void everyShortText() {
        shortTexts(Sentence.quote(0, "the first byte that cannot stand at its place"), "");
    }

    private static void shortTexts(String title, String text) {
        MarkScripts object = new MarkScripts();
        Calls.type(object, 0, text);
        Calls.equal(title + " '" + text + "'", object.fault(0), faultByDefinition(text));
        if (text.length() < 6) {
            for (char next : "a() z".toCharArray()) {
                shortTexts(title, text + next);
            }
        }
    }

    private static int faultByDefinition(String text) {
        for (int i = 0; i < text.length(); i++) {
            if (!canGoOn(text.substring(0, i + 1))) {
                return i;
            }
        }
        return isDocument(text) ? MarkScripts.NONE : text.length();
    }

    /** Whether a document begins so; no more than a label and closing parentheses can be missing. */
    private static boolean canGoOn(String text) {
        Boolean known = VIABLE.get(text);
        if (known == null) {
            known = false;
            for (int close = 0; close <= text.length() && !known; close++) {
                known = isDocument(text + ")".repeat(close)) || isDocument(text + "a" + ")".repeat(close));
            }
            VIABLE.put(text, known);
        }
        return known;
    }

    /** Takes a node with its leaves for one node (n) as long as there is one. */
    private static boolean isDocument(String text) {
        String left = text.replace(" ", "");
        String before = "";
        while (!left.equals(before)) {
            before = left;
            left = left.replaceAll("a\\([an]+\\)", "n");
        }
        return left.equals("a") || left.equals("n");
    }

    /** Every label cast to every kind. */
    private static void everyCast() {
        String title = Sentence.quote(14, "FINDING 3 if the label is neither of this kind nor of a subclass of it");
        for (char label : LABELS.toCharArray()) {
            boolean head = label >= 'A' && label <= 'R';
            boolean word = label >= '0' && label <= '9' || label >= 'j' && label <= 'r';
            boolean[] fits = {head, word, head && label >= 'J', word && label >= 'j'};
            MarkScripts object = new MarkScripts();
            Calls.type(object, 0, "" + label);
            object.document(0, 0);
            for (int kind = 1; kind <= 4; kind++) {
                Calls.equal(title + " " + label + " as " + kind, object.mark(0, 0, kind), fits[kind - 1] ? 1 : -3);
            }
        }
    }
}
