import java.util.ArrayList;
import java.util.Arrays;
import java.util.HashMap;
import java.util.List;
import java.util.Map;

/**
 * A second MarkScripts, as slow and as near to the document's words as it can be: documents are
 * objects with lists of children, all trees in between are really built, and every way to map two
 * forests is compared as a whole. It shares no code with the class, so the two check each other.
 */
final class Model {
    static final int BAD = -1, FULL = -2, FINDING = -3, STATE = -4, SPENT = -6, NONE = -9;

    static final class Node {
        int code;
        List<Node> kids = new ArrayList<>();

        Node(int code) {
            this.code = code;
        }

        Node copy() {
            Node other = new Node(code);
            for (Node kid : kids) {
                other.kids.add(kid.copy());
            }
            return other;
        }

        void postorder(List<Node> to) {
            for (Node kid : kids) {
                kid.postorder(to);
            }
            to.add(this);
        }

        List<Node> all() {
            List<Node> list = new ArrayList<>();
            postorder(list);
            return list;
        }

        boolean isAbove(Node other) {
            return other != this && all().contains(other);
        }

        String spell() {
            StringBuilder text = new StringBuilder().append((char) code);
            if (!kids.isEmpty()) {
                text.append('(');
                for (Node kid : kids) {
                    text.append(kid.spell());
                }
                text.append(')');
            }
            return text.toString();
        }
    }

    /** Documents, prices and the states before each recorded change; never altered. */
    static final class Saved {
        final Node[] docs = new Node[2];
        final int[] prices;
        final List<Saved> changes;

        Saved(Node[] docs, int[] prices, List<Saved> changes) {
            for (int d = 0; d < 2; d++) {
                this.docs[d] = docs[d] == null ? null : docs[d].copy();
            }
            this.prices = prices.clone();
            this.changes = new ArrayList<>(changes);
        }
    }

    /** A mapping of two forests: its cost, and for each node of document 0 its partner or -1. */
    static final class Mapping implements Comparable<Mapping> {
        final int cost;
        final int[] partners;

        Mapping(int cost, int[] partners) {
            this.cost = cost;
            this.partners = partners;
        }

        Mapping plus(int more) {
            return new Mapping(cost + more, partners);
        }

        Mapping with(Mapping other, int more) {
            int[] both = partners.clone();
            for (int x = 0; x < both.length; x++) {
                both[x] = Math.max(both[x], other.partners[x]);
            }
            return new Mapping(cost + other.cost + more, both);
        }

        @Override
        public int compareTo(Mapping other) {
            if (cost != other.cost) {
                return Integer.compare(other.cost, cost);
            }
            for (int x = partners.length - 1; x >= 0; x--) {
                if (partners[x] != other.partners[x]) {
                    return Integer.compare(partners[x], other.partners[x]);
                }
            }
            return 0;
        }
    }

    private final int[][] rows = new int[6][];
    private final byte[][] texts = new byte[4][];
    private Node[] docs = new Node[2];
    private int[] prices = {1, 1, 1};
    private List<Saved> changes = new ArrayList<>();
    private final Saved[] places = new Saved[3];
    private final int[] found = new int[6];
    private int latest;
    private int told;

    private int finding(int f) {
        latest = f;
        found[f]++;
        return FINDING;
    }

    private int tell(int v) {
        told = v;
        return 1;
    }

    int row(int r, int n) {
        if (r < 0 || r > 5 || n > 40) return BAD;
        if (n < 0) return finding(5);
        rows[r] = new int[n];
        return n;
    }

    int lay(int r, int i, int v) {
        if (r < 0 || r > 5) return BAD;
        if (rows[r] == null) return finding(1);
        if (i < 0 || i >= rows[r].length) return finding(2);
        tell(rows[r][i]);
        rows[r][i] = v;
        return 1;
    }

    int at(int r, int i) {
        if (r < 0 || r > 5) return BAD;
        if (rows[r] == null) return finding(1);
        if (i < 0 || i >= rows[r].length) return finding(2);
        return tell(rows[r][i]);
    }

    int tear(int r) {
        if (r < 0 || r > 5) return BAD;
        if (rows[r] == null) return finding(1);
        rows[r] = null;
        return 1;
    }

    int copy(int r, int i, int to, int j, int n) {
        if (r < 0 || r > 5 || to < 0 || to > 5) return BAD;
        if (n < 0) return finding(5);
        if (rows[r] == null || rows[to] == null) return finding(1);
        if (i < 0 || j < 0 || (long) i + n > rows[r].length || (long) j + n > rows[to].length) return finding(2);
        int[] read = Arrays.copyOfRange(rows[r], i, i + n);
        for (int e = 0; e < n; e++) rows[to][j + e] = read[e];
        return 1;
    }

    int mean(int r) {
        if (r < 0 || r > 5) return BAD;
        if (rows[r] == null) return finding(1);
        if (rows[r].length == 0) return finding(4);
        return tell((int) (Arrays.stream(rows[r]).asLongStream().sum() / rows[r].length));
    }

    int text(int t, int n) {
        if (t < 0 || t > 3 || n > 60) return BAD;
        if (n < 0) return finding(5);
        texts[t] = new byte[n];
        Arrays.fill(texts[t], (byte) 32);
        return n;
    }

    int put(int t, int i, int v) {
        if (t < 0 || t > 3) return BAD;
        if (texts[t] == null) return finding(1);
        if (i < 0 || i >= texts[t].length) return finding(2);
        int before = texts[t][i];
        texts[t][i] = (byte) v;
        return before + 1000;
    }

    int fault(int t) {
        if (t < 0 || t > 3) return BAD;
        if (texts[t] == null) return finding(1);
        return new Parse(texts[t]).fault();
    }

    /** Recursive descent over the grammar; the first byte that no rule takes is the fault. */
    private static final class Parse {
        final byte[] text;
        int i = 0;
        int labels = 0;
        Node root;

        Parse(byte[] text) {
            this.text = text;
        }

        int next() {
            while (i < text.length && text[i] == 32) i++;
            return i < text.length ? text[i] : 1000;
        }

        int fault() {
            root = node();
            return root != null && next() == 1000 ? NONE : i;
        }

        Node node() {
            if (!isLabel(next()) || labels == 12) return null;
            labels++;
            Node node = new Node(text[i++]);
            if (next() != '(') return node;
            i++;
            do {
                Node kid = node();
                if (kid == null) return null;
                node.kids.add(kid);
            } while (next() != ')' );
            i++;
            return node;
        }
    }

    static boolean isLabel(int code) {
        return kind(code) >= 0;
    }

    static int kind(int code) {
        if (code < 0 || code > 127) return -1;
        if ("abcdefghi".indexOf(code) >= 0) return 0;
        if ("ABCDEFGHI".indexOf(code) >= 0) return 1;
        if ("0123456789".indexOf(code) >= 0) return 2;
        if ("JKLMNOPQR".indexOf(code) >= 0) return 3;
        return "jklmnopqr".indexOf(code) >= 0 ? 4 : -1;
    }

    int document(int d, int t) {
        if (d < 0 || d > 1 || t < 0 || t > 3) return BAD;
        if (texts[t] == null) return finding(1);
        Parse parse = new Parse(texts[t]);
        if (parse.fault() != NONE) return STATE;
        docs[d] = parse.root;
        changes = new ArrayList<>();
        Arrays.fill(places, null);
        return docs[d].all().size();
    }

    private int print(String text, int t) {
        texts[t] = new byte[text.length()];
        for (int i = 0; i < texts[t].length; i++) texts[t][i] = (byte) text.charAt(i);
        return texts[t].length;
    }

    int write(int d, int t) {
        if (d < 0 || d > 1 || t < 0 || t > 3) return BAD;
        return docs[d] == null ? STATE : print(docs[d].spell(), t);
    }

    private List<Node> nodes(int d) {
        return docs[d] == null ? new ArrayList<>() : docs[d].all();
    }

    private boolean noNode(int d, int x) {
        return d < 0 || d > 1 || x < 0 || x >= nodes(d).size();
    }

    private Node parent(int d, Node node) {
        for (Node other : nodes(d)) if (other.kids.contains(node)) return other;
        return null;
    }

    private int weight(Node node) {
        return kind(node.code) == 3 ? 3 : kind(node.code) == 1 ? 2 : 1;
    }

    private boolean key(int d, Node node, int side) {
        Node parent = parent(d, node);
        return parent == null || parent.kids.indexOf(node) != (side == 0 ? 0 : parent.kids.size() - 1);
    }

    private int look(int d, int x, int what) {
        List<Node> all = nodes(d);
        Node node = all.get(x);
        switch (what) {
            case 0: return node.code;
            case 1: return kind(node.code);
            case 2: return all.indexOf(node.all().get(0));
            case 3: return node.kids.size();
            case 4: return parent(d, node) == null ? NONE : all.indexOf(parent(d, node));
            case 5: return key(d, node, 0) ? 1 : 0;
            case 6: return key(d, node, 1) ? 1 : 0;
            case 7: return prices[0] * weight(node);
            default: return prices[1] * weight(node);
        }
    }

    int node(int d, int x, int what) {
        if (noNode(d, x) || what < 0 || what > 8) return BAD;
        return tell(look(d, x, what));
    }

    int mark(int d, int x, int kind) {
        if (noNode(d, x) || kind < 1 || kind > 4) return BAD;
        Node node = nodes(d).get(x);
        int own = kind(node.code);
        boolean fits = kind == 1 ? own == 1 || own == 3 : kind == 2 ? own == 2 || own == 4 : own == kind;
        if (!fits) return finding(3);
        int n = 0;
        if (kind == 1) for (Node o : node.all()) n += o != node && (kind(o.code) == 1 || kind(o.code) == 3) ? 1 : 0;
        if (kind == 2) for (Node o : nodes(1 - d)) n += o.code == node.code ? 1 : 0;
        if (kind == 3) for (Node o : nodes(d)) n += o.isAbove(node) ? 1 : 0;
        if (kind == 4) n = nodes(d).size() - x - 1;
        return tell(n);
    }

    private boolean both() {
        return docs[0] != null && docs[1] != null;
    }

    private int relabel(int a, int b) {
        if (a == b) return 0;
        if (kind(a) == 2 && kind(b) == 2) return prices[2] * Math.min(3, Math.abs(a - b));
        return prices[2] * (kind(a) == kind(b) ? 1 : 2);
    }

    /** The best mapping of two forests, by what may happen to the last roots of both. */
    private final class Search {
        final List<Node> from = nodes(0);
        final List<Node> to = nodes(1);
        final Map<Node, Integer> numbers = new HashMap<>();
        final Map<String, Mapping> known = new HashMap<>();

        Search() {
            for (Node node : from) numbers.put(node, numbers.size());
            for (Node node : to) numbers.put(node, numbers.size() - from.size());
        }

        String name(List<Node> forest) {
            StringBuilder name = new StringBuilder();
            for (Node root : forest) name.append(numbers.get(root)).append(',');
            return name.toString();
        }

        Mapping best(List<Node> a, List<Node> b) {
            if (a.isEmpty() && b.isEmpty()) {
                int[] none = new int[from.size()];
                Arrays.fill(none, -1);
                return new Mapping(0, none);
            }
            String name = name(a) + "/" + name(b);
            Mapping best = known.get(name);
            if (best == null) {
                best = bestOfAll(a, b);
                known.put(name, best);
            }
            return best;
        }

        Mapping bestOfAll(List<Node> a, List<Node> b) {
            Mapping best = null;
            if (!a.isEmpty()) best = better(best, best(without(a), b).plus(prices[1] * weight(last(a))));
            if (!b.isEmpty()) best = better(best, best(a, without(b)).plus(prices[0] * weight(last(b))));
            if (!a.isEmpty() && !b.isEmpty()) {
                Mapping inside = best(last(a).kids, last(b).kids);
                Mapping beside = best(a.subList(0, a.size() - 1), b.subList(0, b.size() - 1));
                Mapping all = inside.with(beside, relabel(last(a).code, last(b).code));
                int[] partners = all.partners.clone();
                partners[numbers.get(last(a))] = numbers.get(last(b));
                best = better(best, new Mapping(all.cost, partners));
            }
            return best;
        }

        Mapping better(Mapping one, Mapping two) {
            return one == null || two.compareTo(one) > 0 ? two : one;
        }

        Node last(List<Node> forest) {
            return forest.get(forest.size() - 1);
        }

        List<Node> without(List<Node> forest) {
            List<Node> rest = new ArrayList<>(forest.subList(0, forest.size() - 1));
            rest.addAll(last(forest).kids);
            return rest;
        }
    }

    private Mapping mapping() {
        return new Search().best(List.of(docs[0]), List.of(docs[1]));
    }

    int least() {
        return both() ? mapping().cost : STATE;
    }

    private int distance(int x, int y) {
        return new Search().best(List.of(nodes(0).get(x)), List.of(nodes(1).get(y))).cost;
    }

    int cost(int x, int y) {
        if (noNode(0, x) || noNode(1, y)) return BAD;
        tell(relabel(nodes(0).get(x).code, nodes(1).get(y).code));
        return distance(x, y);
    }

    private int partnerIn(int[] partners, int d, int x) {
        if (d == 0) return partners[x] < 0 ? NONE : partners[x];
        for (int y = 0; y < partners.length; y++) if (partners[y] == x) return y;
        return NONE;
    }

    int partner(int d, int x) {
        if (noNode(d, x)) return BAD;
        return both() ? partnerIn(mapping().partners, d, x) : STATE;
    }

    private List<int[]> steps() {
        int[] partners = mapping().partners;
        List<Node> from = nodes(0), to = nodes(1);
        List<int[]> steps = new ArrayList<>();
        for (int x = 0; x < from.size(); x++) {
            if (partners[x] < 0) steps.add(new int[] {0, x, prices[1] * weight(from.get(x))});
        }
        for (int x = 0; x < from.size(); x++) {
            if (partners[x] >= 0 && from.get(x).code != to.get(partners[x]).code) {
                steps.add(new int[] {1, x, relabel(from.get(x).code, to.get(partners[x]).code)});
            }
        }
        for (int y = to.size() - 1; y >= 0; y--) {
            if (partnerIn(partners, 1, y) == NONE) steps.add(new int[] {2, y, prices[0] * weight(to.get(y))});
        }
        return steps;
    }

    int step(int k, int what) {
        if (k < 0 || what < 0 || what > 2) return BAD;
        if (!both()) return STATE;
        List<int[]> steps = steps();
        return k >= steps.size() ? NONE : tell(steps.get(k)[what]);
    }

    int behind(int k, int t) {
        if (k < 0 || t < 0 || t > 3) return BAD;
        if (!both()) return STATE;
        if (k > steps().size()) return SPENT;
        StringBuilder text = new StringBuilder();
        for (Node tree : treesAfter(steps().subList(0, k)).kids) text.append(tree.spell());
        return print(text.toString(), t);
    }

    /** Really does the steps, below a root of no document. */
    private Node treesAfter(List<int[]> steps) {
        int[] partners = mapping().partners;
        List<Node> to = nodes(1);
        Node top = new Node(0);
        top.kids.add(docs[0].copy());
        List<Node> from = top.kids.get(0).all();
        Map<Node, Node> goals = new HashMap<>();
        for (int x = 0; x < from.size(); x++) if (partners[x] >= 0) goals.put(from.get(x), to.get(partners[x]));
        for (int[] step : steps) {
            if (step[0] == 0) dissolve(top, from.get(step[1]));
            if (step[0] == 1) from.get(step[1]).code = to.get(partners[step[1]]).code;
            if (step[0] == 2) place(top, to.get(step[1]), goals);
        }
        return top;
    }

    private static void dissolve(Node top, Node node) {
        for (Node other : top.all()) {
            int i = other.kids.indexOf(node);
            if (i >= 0) {
                other.kids.remove(i);
                other.kids.addAll(i, node.kids);
                return;
            }
        }
    }

    private void place(Node top, Node goal, Map<Node, Node> goals) {
        Node parent = top;
        for (Node other : top.all()) {
            if (other != top && goals.get(other).isAbove(goal) && (parent == top || parent.isAbove(other))) parent = other;
        }
        Node fresh = new Node(goal.code);
        goals.put(fresh, goal);
        List<Node> order = nodes(1);
        int i = 0;
        while (i < parent.kids.size() && !goal.isAbove(goals.get(parent.kids.get(i)))
                && order.indexOf(goals.get(parent.kids.get(i))) < order.indexOf(goal)) i++;
        while (i < parent.kids.size() && goal.isAbove(goals.get(parent.kids.get(i)))) fresh.kids.add(parent.kids.remove(i));
        parent.kids.add(i, fresh);
    }

    int work(int side) {
        if (side < 0 || side > 1) return BAD;
        if (!both()) return STATE;
        int sum = 0, pairs = 0;
        for (Node a : nodes(0)) {
            for (Node b : nodes(1)) {
                if (key(0, a, side) && key(1, b, side)) {
                    sum += a.all().size() * b.all().size();
                    pairs++;
                }
            }
        }
        tell(pairs);
        return sum;
    }

    int nearest(int d, int x) {
        if (noNode(d, x)) return BAD;
        if (!both()) return STATE;
        int best = -1, least = Integer.MAX_VALUE;
        for (int y = 0; y < nodes(1 - d).size(); y++) {
            int distance = d == 0 ? distance(x, y) : distance(y, x);
            if (distance < least) {
                best = y;
                least = distance;
            }
        }
        tell(least);
        return best;
    }

    int would(int d, int x, int code) {
        if (noNode(d, x) || !isLabel(code)) return BAD;
        if (!both()) return STATE;
        Node node = nodes(d).get(x);
        int before = node.code;
        node.code = code;
        tell(least());
        node.code = before;
        return 1;
    }

    private void record() {
        changes.add(new Saved(docs, prices, new ArrayList<>()));
    }

    int change(int d, int x, int code) {
        if (noNode(d, x) || !isLabel(code)) return BAD;
        int before = nodes(d).get(x).code;
        if (before == code) return STATE;
        if (changes.size() == 40) return FULL;
        record();
        nodes(d).get(x).code = code;
        return before;
    }

    private boolean lose(int d, int x) {
        Node node = nodes(d).get(x);
        if (node == docs[d]) {
            if (node.kids.size() != 1) return false;
            docs[d] = node.kids.get(0);
        } else {
            dissolve(docs[d], node);
        }
        return true;
    }

    int cut(int d, int x) {
        if (noNode(d, x)) return BAD;
        if (x == nodes(d).size() - 1 && docs[d].kids.size() != 1) return STATE;
        if (changes.size() == 40) return FULL;
        record();
        lose(d, x);
        return nodes(d).size();
    }

    private int gain(int d, int x, int i, int n, int code) {
        Node parent = nodes(d).get(x);
        Node fresh = new Node(code);
        for (int c = 0; c < n; c++) fresh.kids.add(parent.kids.remove(i));
        parent.kids.add(i, fresh);
        return nodes(d).indexOf(fresh);
    }

    int add(int d, int x, int i, int n, int code) {
        if (noNode(d, x) || i < 0 || n < 0) return BAD;
        if ((long) i + n > nodes(d).get(x).kids.size() || !isLabel(code)) return BAD;
        if (nodes(d).size() == 12) return STATE;
        if (changes.size() == 40) return FULL;
        record();
        return gain(d, x, i, n, code);
    }

    int price(int what, int v) {
        if (what < 0 || what > 2 || v < 1 || v > 9) return BAD;
        if (prices[what] == v) return STATE;
        if (changes.size() == 40) return FULL;
        record();
        int before = prices[what];
        prices[what] = v;
        return before;
    }

    private void swap() {
        docs = new Node[] {docs[1], docs[0]};
    }

    int turn() {
        if (!both()) return STATE;
        if (changes.size() == 40) return FULL;
        record();
        swap();
        return nodes(0).size();
    }

    private void restore(Saved saved) {
        Saved copy = new Saved(saved.docs, saved.prices, saved.changes);
        docs = copy.docs;
        prices = copy.prices;
    }

    int undo(int n) {
        if (n < 0 || n > changes.size()) return BAD;
        int undone = 0;
        while (changes.size() > n) {
            restore(changes.remove(changes.size() - 1));
            undone++;
        }
        return undone;
    }

    int keep(int k) {
        if (k < 0 || k > 2) return BAD;
        places[k] = new Saved(docs, prices, changes);
        return changes.size();
    }

    int on(int k) {
        if (k < 0 || k > 2) return BAD;
        if (places[k] == null) return finding(1);
        restore(places[k]);
        changes = new ArrayList<>(places[k].changes);
        return changes.size();
    }

    int lots(int n, int seed) {
        if (n < 1 || n > 20 || seed < 1 || seed == Integer.MAX_VALUE) return BAD;
        if (!both()) return STATE;
        if (changes.size() + n > 40) return FULL;
        long z = seed;
        for (int c = 0; c < n; c++) {
            z = 48271 * z % 2147483647;
            int d = (int) (z / 2 % 2);
            int x = (int) (z / 64 % nodes(d).size());
            record();
            switch ((int) (z % 8)) {
                case 4: case 5: lose(d, x); break;
                case 6: if (nodes(d).size() < 12) gain(d, x, 0, 0, (int) (48 + z / 1024 % 10)); break;
                case 7: swap(); break;
                default: nodes(d).get(x).code = (int) (97 + z / 1024 % 18);
            }
        }
        return nodes(0).size() + nodes(1).size();
    }

    int asked() {
        return told;
    }

    int count(int what) {
        switch (what) {
            case 0: case 1: return nodes(what).size();
            case 2: return both() ? mapping().cost : -1;
            case 3: return both() ? steps().size() : -1;
            case 4: return both() ? (int) Arrays.stream(mapping().partners).filter(y -> y >= 0).count() : -1;
            case 5: case 6: return (int) nodes(what - 5).stream().filter(x -> key(what - 5, x, 0)).count();
            case 7: case 8: case 9: return prices[what - 7];
            case 10: return changes.size();
            case 11: return (int) Arrays.stream(rows).filter(r -> r != null).count();
            case 12: return (int) Arrays.stream(texts).filter(t -> t != null).count();
            case 13: return (int) Arrays.stream(places).filter(p -> p != null).count();
            default: return BAD;
        }
    }

    int finding() {
        return latest;
    }

    int findings(int f) {
        return f < 1 || f > 5 ? BAD : found[f];
    }

    long digest() {
        List<Integer> values = new ArrayList<>();
        for (int what = 0; what <= 13; what++) values.add(count(what));
        int[] partners = both() ? mapping().partners : null;
        for (int d = 0; d < 2; d++) {
            for (int x = 0; x < nodes(d).size(); x++) {
                values.add(look(d, x, 0));
                values.add(look(d, x, 2));
                values.add(look(d, x, 4));
                values.add(partners == null ? -1 : partnerIn(partners, d, x));
            }
        }
        for (Saved place : places) values.add(place == null ? -1 : place.changes.size());
        for (int[] row : rows) {
            values.add(row == null ? -1 : row.length);
            if (row != null) for (int v : row) values.add(v);
        }
        for (byte[] text : texts) {
            values.add(text == null ? -1 : text.length);
            if (text != null) for (byte v : text) values.add((int) v);
        }
        long h = 17;
        for (int v : values) h = 31 * h + v;
        return h;
    }
}
