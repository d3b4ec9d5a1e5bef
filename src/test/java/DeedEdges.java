import java.math.BigInteger;

/** Sweeps over the edges of changes; the single runs stand in deeds.txt. */
final class DeedEdges {
    private static final int PRIME = 2147483647;
    private static final String FLAT = "a(bcdefghijkl)", CHAIN = "a(b(c(d(e(f(g(h(i(j(k(l)))))))))))";

    private DeedEdges() {
    }

    static void all() {
        everyAdd();
        everyUndo();
        lotsThatDoNothing();
        lotsThatTurn();
        everyLot();
    }

    /** All places and numbers of children, below a node whose children have descendants. */
    private static void everyAdd() {
        String title = Sentence.quote(25, "n children of that node become children of the new one");
        for (int i = -1; i <= 4; i++) {
            for (int n = -1; n <= 4; n++) {
                oneAdd(title, i, n);
            }
        }
    }

    private static void oneAdd(String title, int i, int n) {
        String[] kids = {"b(e)", "c(fg)", "d"};
        int[] sizes = {2, 3, 1};
        String due = "K(1a(b(e)c(fg)d)2)";
        int number = -1;
        if (i >= 0 && n >= 0 && i + n <= 3) {
            StringBuilder tree = new StringBuilder("K(1a(");
            number = 1;
            for (int k = 0; k <= 3; k++) {
                tree.append(k == i ? n > 0 ? "R(" : "R" : "");
                tree.append(k < 3 ? kids[k] : "");
                tree.append(n > 0 && k == i + n - 1 ? ")" : "");
                number += k < i + n ? sizes[k] : 0;
            }
            due = tree + ")2)";
        }
        Calls.run(title, "one(0, 'K(1a(b(e)c(fg)d)2)'); add(0, 7, " + i + ", " + n + ", 82) = " + number
            + "; reads(0, '" + due + "')");
    }

    /** From the end of a run back to before each of its changes, at once. */
    private static void everyUndo() {
        String title = Sentence.quote(28, "documents and prices are as before that change");
        String[] names = {"change", "cut", "add", "price", "turn", "lots", "change", "add", "cut", "turn", "price", "lots"};
        int[][] values = {{0, 0, 48}, {0, 2}, {1, 0, 0, 0, 74}, {1, 9}, {}, {1, 77}, {1, 0, 82}, {0, 1, 0, 1, 107}, {1, 0}, {},
            {2, 3}, {1, 5}};
        Tape tape = new Tape();
        tape.type(0, "a(b(cd)e)");
        tape.call("document", 0, 0);
        tape.type(0, "f(g)");
        tape.call("document", 1, 0);
        long[] before = new long[names.length];
        for (int c = 0; c < names.length; c++) {
            before[c] = tape.call("digest");
            Calls.equal(title + ": " + names[c] + " is carried out", tape.call(names[c], values[c]) >= 0 ? 1 : 0, 1);
        }
        for (int n = 0; n < names.length; n++) {
            Tape other = tape.again();
            Calls.equal(title + ": undo(" + n + ")", other.call("undo", n), names.length - n);
            Calls.equal(title + ": digest() after undo(" + n + ")", other.call("digest"), before[n]);
        }
    }

    private static long next(long z) {
        return BigInteger.valueOf(z).multiply(BigInteger.valueOf(48271)).mod(BigInteger.valueOf(PRIME)).longValue();
    }

    /** The first seed from the given one on whose number has this rest by 8, which also says the document. */
    private static int seed(int from, int rest) {
        int seed = from;
        while (next(seed) % 8 != rest && seed < from + 10000) {
            seed++;
        }
        return seed;
    }

    private static void lotsThatDoNothing() {
        String title = Sentence.quote(31, "Something that is not possible, as in cut() and add(), does nothing, but is"
            + " recorded as a change, too");
        for (int from = 1; from < 1900000000; from += 199999999) {
            nothing(title, "a", "b", seed(from, 4));
            nothing(title, "a", "b", seed(from, 5));
            nothing(title, FLAT, CHAIN, seed(from, 6));
            for (int rest = 0; rest <= 3; rest++) {
                int seed = seed(from, rest);
                String same = "" + (char) (97 + next(seed) / 1024 % 18);
                nothing(title, same, same, seed);
            }
        }
    }

    private static void nothing(String title, String from, String to, int seed) {
        int nodes = (from + to).replaceAll("[()]", "").length();
        String stay = "reads(0, '" + from + "'); reads(1, '" + to + "');";
        Calls.run(title, "two('" + from + "', '" + to + "'); lots(1, " + seed + ") = " + nodes + "; count(10) = 1;" + stay
            + "undo(1) = 0; undo(0) = 1; undo(1) = BAD;" + stay);
    }

    private static void lotsThatTurn() {
        String title = Sentence.quote(31, "7, both documents are exchanged");
        for (int from = 1; from < 1900000000; from += 199999999) {
            Calls.run(title, "two('a(b)', 'c'); lots(1, " + seed(from, 7) + ") = 3; reads(0, 'c'); reads(1, 'a(b)');"
                + "count(10) = 1; undo(0) = 1; reads(0, 'a(b)'); reads(1, 'c')");
        }
    }

    /** Runs of lots() against the same deeds by change(), cut(), add() and turn(), one by one. */
    private static void everyLot() {
        Sentence.quote(31, "A number z is seed at first");
        Sentence.quote(31, "For each change z becomes 48271 * z % 2147483647 (without overflow)");
        Sentence.quote(31, "d is z / 2 % 2 and x is z / 64 % (number of nodes of document d)");
        Sentence.quote(31, "By z % 8: 0 to 3, node x of document d gets the code 97 + z / 1024 % 18");
        Sentence.quote(31, "4 or 5, it is deleted");
        Sentence.quote(31, "6, a node with the code 48 + z / 1024 % 10 becomes its first child, without children");
        String title = Sentence.quote(31, "Carries out n pseudo-random changes");
        String[][] trees = {{"a", "b"}, {"a(b(cd)e)", "f(g)"}, {FLAT, CHAIN}};
        for (int run = 0; run < 300; run++) {
            int seed = run < 100 ? run + 1 : run < 200 ? PRIME - 1 - (run - 100) : run * 7654321 & PRIME;
            oneRunOfLots(title + " seed " + seed, trees[run % 3], 1 + run % 20, seed);
        }
    }

    private static void oneRunOfLots(String title, String[] trees, int n, int seed) {
        MarkScripts object = new MarkScripts();
        MarkScripts twin = new MarkScripts();
        for (int d = 0; d < 2; d++) {
            Calls.type(object, 0, trees[d]);
            object.document(d, 0);
            Calls.type(twin, 0, trees[d]);
            twin.document(d, 0);
        }
        long z = seed;
        for (int c = 0; c < n; c++) {
            z = next(z);
            deed(twin, (int) z);
        }
        Calls.equal(title, object.lots(n, seed), twin.count(0) + twin.count(1));
        Calls.equal(title + ": recorded changes", object.count(10), n);
        for (int d = 0; d < 2; d++) {
            String got = Calls.spell(object, 0, object.write(d, 0));
            String due = Calls.spell(twin, 0, twin.write(d, 0));
            Calls.equal(title + ": document " + d + " is " + got + ", due is " + due + ": same", got.equals(due) ? 1 : 0, 1);
        }
    }

    private static void deed(MarkScripts twin, int z) {
        int d = z / 2 % 2;
        int x = z / 64 % twin.count(d);
        if (z % 8 == 7) {
            twin.turn();
        } else if (z % 8 == 6) {
            twin.add(d, x, 0, 0, 48 + z / 1024 % 10);
        } else if (z % 8 >= 4) {
            twin.cut(d, x);
        } else {
            twin.change(d, x, 97 + z / 1024 % 18);
        }
    }
}
