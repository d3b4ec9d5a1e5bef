/** Sweeps over the edges of costs and distances; the single runs stand in ways.txt. */
final class WayEdges {
    private static final String LABELS = DocumentEdges.LABELS;

    private WayEdges() {
    }

    static void all() {
        everyLabel();
        everyPairOfLabels();
        everyPairOfNodes();
        everyCode();
    }

    private static MarkScripts documents(String from, String to, int... prices) {
        MarkScripts object = new MarkScripts();
        Calls.type(object, 0, from);
        object.document(0, 0);
        Calls.type(object, 0, to);
        object.document(1, 0);
        for (int what = 0; what < prices.length; what++) {
            object.price(what, prices[what]);
        }
        return object;
    }

    private static int kind(char label) {
        if (label >= '0' && label <= '9') {
            return 2;
        }
        if (label >= 'a') {
            return label <= 'i' ? 0 : 4;
        }
        return label <= 'I' ? 1 : 3;
    }

    private static int weight(char label) {
        return kind(label) == 1 ? 2 : kind(label) == 3 ? 3 : 1;
    }

    /** By the document's words, for a price of 1. */
    private static int relabelling(char one, char two) {
        if (one == two) {
            return 0;
        }
        if (kind(one) == 2 && kind(two) == 2) {
            return Math.min(3, Math.abs(one - two));
        }
        return kind(one) == kind(two) ? 1 : 2;
    }

    /** A leaf that is inserted or deleted; relabelling costs more than that. */
    private static void everyLabel() {
        String title = Sentence.quote(0, "Inserting or deleting a node costs the price of this, twice for a Head, three times"
            + " for a Title, and once for any other kind");
        for (char label : LABELS.toCharArray()) {
            for (int price = 1; price <= 3; price++) {
                MarkScripts object = documents("b", "b(" + label + ")", price, 4 - price, 9);
                Calls.equal(title + " " + label + ": inserted", object.least(), price * weight(label));
                object.step(0, 2);
                Calls.equal(title + " " + label + ": the step", object.asked(), price * weight(label));
                object.node(1, 0, 7);
                Calls.equal(title + " " + label + ": node 7", object.asked(), price * weight(label));
                object.node(1, 0, 8);
                Calls.equal(title + " " + label + ": node 8", object.asked(), (4 - price) * weight(label));
                object.turn();
                Calls.equal(title + " " + label + ": deleted", object.least(), (4 - price) * weight(label));
            }
        }
    }

    /** Documents of one node: it is relabelled, or deleted and inserted, and has a partner if both cost the same. */
    private static void everyPairOfLabels() {
        String title = Sentence.quote(0, "Relabelling a node into another one costs");
        int[][] prices = {{1, 1, 1}, {9, 9, 9}, {1, 2, 3}, {4, 2, 5}};
        for (int[] price : prices) {
            for (char one : LABELS.toCharArray()) {
                for (char two : LABELS.toCharArray()) {
                    onePair(title + " " + one + " into " + two, one, two, price);
                }
            }
        }
    }

    private static void onePair(String title, char one, char two, int[] prices) {
        MarkScripts object = documents("" + one, "" + two, prices);
        int relabelled = prices[2] * relabelling(one, two);
        int apart = prices[1] * weight(one) + prices[0] * weight(two);
        Calls.equal(title + ": cost", object.cost(0, 0), Math.min(relabelled, apart));
        Calls.equal(title + ": asked", object.asked(), relabelled);
        Calls.equal(title + ": least", object.least(), Math.min(relabelled, apart));
        Calls.equal(title + ": partner", object.partner(0, 0), relabelled <= apart ? 0 : MarkScripts.NONE);
        Calls.equal(title + ": steps", object.count(3), relabelled > apart ? 2 : one == two ? 0 : 1);
    }

    private static void everyPairOfNodes() {
        String title = Sentence.quote(0, "The distance of a node x of document 0 and a node y of document 1 is the distance of"
            + " the documents that consist of x with its descendants and of y with its descendants");
        String[] from = {"c", "d", "b(cd)", "e", "a(b(cd)e)"};
        String[] to = {"c", "b(c)", "9", "0(9)", "A(b(c)0(9))"};
        for (int price = 1; price <= 9; price += 4) {
            MarkScripts whole = documents(from[4], to[4], price);
            for (int x = 0; x < from.length; x++) {
                for (int y = 0; y < to.length; y++) {
                    Calls.equal(title + " " + x + ", " + y, whole.cost(x, y), documents(from[x], to[y], price).least());
                }
            }
        }
    }

    /** Every number near the labels as a code of would(), change() and add(). */
    private static void everyCode() {
        String[] titles = {Sentence.quote(22, "code is no label"), Sentence.quote(23, "code is no label"),
            Sentence.quote(25, "code is no label")};
        for (int code = -300; code <= 700; code++) {
            boolean label = code > 0 && LABELS.indexOf(code) >= 0;
            MarkScripts object = documents("e", "e");
            Calls.equal(titles[0] + " " + code, object.would(0, 0, code), label ? 1 : -1);
            Calls.equal(titles[1] + " " + code, object.change(0, 0, code), !label ? -1 : code == 'e' ? -4 : 'e');
            Calls.equal(titles[2] + " " + code, object.add(1, 0, 0, 0, code), label ? 0 : -1);
        }
    }
}
