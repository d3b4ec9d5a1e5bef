/**
 * Tree edit distance between two small documents, with prices, steps, changes and saved states.
 * What each method promises stands in DOC.md; everything an object needs is made by its
 * constructor, so that no call makes anything new.
 */
public final class MarkScripts {
    public static final int BAD = -1, FULL = -2, FINDING = -3, STATE = -4, SPENT = -6, NONE = -9;

    private static final int NULL = 1, INDEX = 2, CAST = 3, DIVISION = 4, SIZE = 5;
    private static final int ROWS = 6, ROW_ROOM = 40, TEXTS = 4, TEXT_ROOM = 60;
    private static final int NODES = 12, PRICES = 3, CHANGES = 40, PLACES = 3;
    private static final int INSERT = 0, DELETE = 1, RELABEL = 2, TOP_PRICE = 9;
    private static final int NO_KIND = -1, MARK = 0, HEAD = 1, WORD = 2, TITLE = 3, NOTE = 4;
    private static final int DELETION = 0, RELABELLING = 1, INSERTION = 2;
    private static final int MOST_LOTS = 20, PRIME = 2147483647;
    private static final long FACTOR = 48271L;
    private static final int ABSENT = -1;

    private final Row[] rows = new Row[ROWS];
    private final Text[] texts = new Text[TEXTS];
    private final Ways ways = new Ways();
    private final State state = ways.state;
    private final Log log = new Log(0);
    private final Log[] places = new Log[PLACES];
    private final Reader reader = new Reader();
    private final Tree draft = new Tree();
    private final int[] tally = new int[SIZE + 1];
    private int latest = 0;
    private int told = 0;

    public MarkScripts() {
        for (int r = 0; r < ROWS; r++) {
            rows[r] = new Row();
        }
        for (int t = 0; t < TEXTS; t++) {
            texts[t] = new Text();
        }
        for (int k = 0; k < PLACES; k++) {
            places[k] = new Log(ABSENT);
        }
    }

    // ---- rows, texts, documents

    public int row(int r, int n) {
        if (noRow(r) || n > ROW_ROOM) {
            return BAD;
        }
        if (n < 0) {
            return found(SIZE);
        }
        rows[r].begin(n);
        return n;
    }

    public int lay(int r, int i, int v) {
        if (noRow(r)) {
            return BAD;
        }
        Row row = rows[r];
        if (row.length < 0) {
            return found(NULL);
        }
        if (i < 0 || i >= row.length) {
            return found(INDEX);
        }
        int before = row.items[i];
        row.items[i] = v;
        return tell(before);
    }

    public int at(int r, int i) {
        if (noRow(r)) {
            return BAD;
        }
        Row row = rows[r];
        if (row.length < 0) {
            return found(NULL);
        }
        if (i < 0 || i >= row.length) {
            return found(INDEX);
        }
        return tell(row.items[i]);
    }

    public int tear(int r) {
        if (noRow(r)) {
            return BAD;
        }
        if (rows[r].length < 0) {
            return found(NULL);
        }
        rows[r].length = ABSENT;
        return 1;
    }

    public int copy(int r, int i, int to, int j, int n) {
        if (noRow(r) || noRow(to)) {
            return BAD;
        }
        if (n < 0) {
            return found(SIZE);
        }
        if (rows[r].length < 0 || rows[to].length < 0) {
            return found(NULL);
        }
        if (rows[r].lacks(i, n) || rows[to].lacks(j, n)) {
            return found(INDEX);
        }
        System.arraycopy(rows[r].items, i, rows[to].items, j, n);
        return 1;
    }

    public int mean(int r) {
        if (noRow(r)) {
            return BAD;
        }
        Row row = rows[r];
        if (row.length < 0) {
            return found(NULL);
        }
        if (row.length == 0) {
            return found(DIVISION);
        }
        return tell((int) (row.sum() / row.length));
    }

    public int text(int t, int n) {
        if (noText(t) || n > TEXT_ROOM) {
            return BAD;
        }
        if (n < 0) {
            return found(SIZE);
        }
        texts[t].begin(n);
        return n;
    }

    public int put(int t, int i, int v) {
        if (noText(t)) {
            return BAD;
        }
        Text text = texts[t];
        if (text.length < 0) {
            return found(NULL);
        }
        if (i < 0 || i >= text.length) {
            return found(INDEX);
        }
        int before = text.bytes[i];
        text.bytes[i] = (byte) v;
        return before + 1000;
    }

    public int fault(int t) {
        if (noText(t)) {
            return BAD;
        }
        if (texts[t].length < 0) {
            return found(NULL);
        }
        return reader.read(texts[t]);
    }

    public int document(int d, int t) {
        if (noDocument(d) || noText(t)) {
            return BAD;
        }
        if (texts[t].length < 0) {
            return found(NULL);
        }
        if (reader.read(texts[t]) != NONE) {
            return STATE;
        }
        state.tree(d).take(reader.tree);
        ways.stale = true;
        log.count = 0;
        for (int k = 0; k < PLACES; k++) {
            places[k].count = ABSENT;
        }
        return state.tree(d).size;
    }

    public int write(int d, int t) {
        if (noDocument(d) || noText(t)) {
            return BAD;
        }
        if (state.tree(d).size == 0) {
            return STATE;
        }
        return texts[t].print(state.tree(d));
    }

    public int node(int d, int x, int what) {
        if (noNode(d, x) || what < 0 || what > 8) {
            return BAD;
        }
        return tell(property(state.tree(d), x, what));
    }

    public int mark(int d, int x, int kind) {
        if (noNode(d, x) || kind < HEAD || kind > NOTE) {
            return BAD;
        }
        Tree tree = state.tree(d);
        if (!isOf(kindOf(tree.codes[x]), kind)) {
            return found(CAST);
        }
        switch (kind) {
            case HEAD:
                return tell(tree.headsBelow(x));
            case WORD:
                return tell(state.tree(1 - d).nodesWith(tree.codes[x]));
            case TITLE:
                return tell(tree.ancestors(x));
            default:
                return tell(tree.size - 1 - x);
        }
    }

    // ---- ways

    public int least() {
        if (!state.isWhole()) {
            return STATE;
        }
        ways.refresh();
        return ways.distance();
    }

    public int cost(int x, int y) {
        if (noNode(0, x) || noNode(1, y)) {
            return BAD;
        }
        ways.refresh();
        told = ways.swaps[x][y];
        return ways.apart[x][y];
    }

    public int partner(int d, int x) {
        if (noNode(d, x)) {
            return BAD;
        }
        if (!state.isWhole()) {
            return STATE;
        }
        ways.refresh();
        return ways.partnerOf(d, x);
    }

    public int step(int k, int what) {
        if (k < 0 || what < 0 || what > 2) {
            return BAD;
        }
        if (!state.isWhole()) {
            return STATE;
        }
        ways.refresh();
        Steps steps = ways.steps;
        if (k >= steps.count) {
            return NONE;
        }
        switch (what) {
            case 0:
                return tell(steps.sorts[k]);
            case 1:
                return tell(steps.nodes[k]);
            default:
                return tell(steps.costs[k]);
        }
    }

    public int behind(int k, int t) {
        if (k < 0 || noText(t)) {
            return BAD;
        }
        if (!state.isWhole()) {
            return STATE;
        }
        ways.refresh();
        if (k > ways.steps.count) {
            return SPENT;
        }
        ways.grow(k, draft);
        return texts[t].print(draft);
    }

    public int work(int side) {
        if (side < 0 || side > 1) {
            return BAD;
        }
        if (!state.isWhole()) {
            return STATE;
        }
        told = state.from.keys(side) * state.to.keys(side);
        return state.from.keySizes(side) * state.to.keySizes(side);
    }

    public int nearest(int d, int x) {
        if (noNode(d, x)) {
            return BAD;
        }
        if (!state.isWhole()) {
            return STATE;
        }
        ways.refresh();
        int best = 0;
        for (int y = 1; y < state.tree(1 - d).size; y++) {
            if (ways.between(d, x, y) < ways.between(d, x, best)) {
                best = y;
            }
        }
        told = ways.between(d, x, best);
        return best;
    }

    public int would(int d, int x, int code) {
        if (noNode(d, x) || kindOf(code) == NO_KIND) {
            return BAD;
        }
        if (!state.isWhole()) {
            return STATE;
        }
        Tree tree = state.tree(d);
        int before = tree.codes[x];
        tree.codes[x] = code;
        ways.measure();
        tree.codes[x] = before;
        ways.stale = true;
        return tell(ways.distance());
    }

    // ---- deeds

    public int change(int d, int x, int code) {
        if (noNode(d, x) || kindOf(code) == NO_KIND) {
            return BAD;
        }
        Tree tree = state.tree(d);
        int before = tree.codes[x];
        if (before == code) {
            return STATE;
        }
        if (log.count >= CHANGES) {
            return FULL;
        }
        record();
        tree.codes[x] = code;
        return before;
    }

    public int cut(int d, int x) {
        if (noNode(d, x)) {
            return BAD;
        }
        Tree tree = state.tree(d);
        if (!tree.canLose(x)) {
            return STATE;
        }
        if (log.count >= CHANGES) {
            return FULL;
        }
        record();
        tree.remove(x);
        return tree.size;
    }

    public int add(int d, int x, int i, int n, int code) {
        if (noNode(d, x) || i < 0 || n < 0) {
            return BAD;
        }
        Tree tree = state.tree(d);
        int children = tree.children(x);
        if (i > children || n > children - i || kindOf(code) == NO_KIND) {
            return BAD;
        }
        if (tree.size >= NODES) {
            return STATE;
        }
        if (log.count >= CHANGES) {
            return FULL;
        }
        record();
        return tree.insert(x, i, n, code);
    }

    public int price(int what, int v) {
        if (what < 0 || what >= PRICES || v < 1 || v > TOP_PRICE) {
            return BAD;
        }
        int before = state.prices[what];
        if (before == v) {
            return STATE;
        }
        if (log.count >= CHANGES) {
            return FULL;
        }
        record();
        state.prices[what] = v;
        return before;
    }

    public int turn() {
        if (!state.isWhole()) {
            return STATE;
        }
        if (log.count >= CHANGES) {
            return FULL;
        }
        record();
        exchange();
        return state.from.size;
    }

    public int undo(int n) {
        if (n < 0 || n > log.count) {
            return BAD;
        }
        int undone = log.count - n;
        if (undone > 0) {
            log.count = n;
            restore();
        }
        return undone;
    }

    public int keep(int k) {
        if (noPlace(k)) {
            return BAD;
        }
        log.hold(state);
        places[k].take(log);
        return log.count;
    }

    public int on(int k) {
        if (noPlace(k)) {
            return BAD;
        }
        if (places[k].count < 0) {
            return found(NULL);
        }
        log.take(places[k]);
        restore();
        return log.count;
    }

    public int lots(int n, int seed) {
        if (n < 1 || n > MOST_LOTS || seed < 1 || seed >= PRIME) {
            return BAD;
        }
        if (!state.isWhole()) {
            return STATE;
        }
        if (log.count + n > CHANGES) {
            return FULL;
        }
        long z = seed;
        for (int c = 0; c < n; c++) {
            z = FACTOR * z % PRIME;
            record();
            shake((int) z);
        }
        return state.from.size + state.to.size;
    }

    // ---- what is told

    public int asked() {
        return told;
    }

    public int count(int what) {
        if (what < 0 || what > 13) {
            return BAD;
        }
        ways.refresh();
        return number(what);
    }

    public int finding() {
        return latest;
    }

    public int findings(int f) {
        if (f < NULL || f > SIZE) {
            return BAD;
        }
        return tally[f];
    }

    public long digest() {
        ways.refresh();
        long h = 17L;
        for (int what = 0; what <= 13; what++) {
            h = 31L * h + number(what);
        }
        h = digestOfTree(digestOfTree(h, 0), 1);
        for (int k = 0; k < PLACES; k++) {
            h = 31L * h + places[k].count;
        }
        for (int r = 0; r < ROWS; r++) {
            h = rows[r].digestAfter(h);
        }
        for (int t = 0; t < TEXTS; t++) {
            h = texts[t].digestAfter(h);
        }
        return h;
    }

    // ---- helpers of the face

    private static boolean noRow(int r) {
        return r < 0 || r >= ROWS;
    }

    private static boolean noText(int t) {
        return t < 0 || t >= TEXTS;
    }

    private static boolean noDocument(int d) {
        return d < 0 || d > 1;
    }

    private static boolean noPlace(int k) {
        return k < 0 || k >= PLACES;
    }

    private boolean noNode(int d, int x) {
        return noDocument(d) || !state.tree(d).has(x);
    }

    private int tell(int v) {
        told = v;
        return 1;
    }

    private int found(int f) {
        latest = f;
        tally[f]++;
        return FINDING;
    }

    private void record() {
        log.hold(state);
        log.count++;
        ways.stale = true;
    }

    private void restore() {
        log.give(state);
        ways.stale = true;
    }

    private void exchange() {
        draft.take(state.from);
        state.from.take(state.to);
        state.to.take(draft);
    }

    /** Carries out the change of lots() that belongs to z, as far as it is possible. */
    private void shake(int z) {
        Tree tree = state.tree(z / 2 % 2);
        if (tree.size == 0) {
            return;
        }
        int x = z / 64 % tree.size;
        int sort = z % 8;
        if (sort <= 3) {
            tree.codes[x] = 'a' + z / 1024 % 18;
        } else if (sort <= 5) {
            if (tree.canLose(x)) {
                tree.remove(x);
            }
        } else if (sort == 6) {
            if (tree.size < NODES) {
                tree.insert(x, 0, 0, '0' + z / 1024 % 10);
            }
        } else {
            exchange();
        }
    }

    private int property(Tree tree, int x, int what) {
        switch (what) {
            case 0:
                return tree.codes[x];
            case 1:
                return kindOf(tree.codes[x]);
            case 2:
                return tree.leftmost(x);
            case 3:
                return tree.children(x);
            case 4:
                return tree.parent(x);
            case 5:
                return tree.isKey(x, 0) ? 1 : 0;
            case 6:
                return tree.isKey(x, 1) ? 1 : 0;
            case 7:
                return state.insertion(tree.codes[x]);
            default:
                return state.deletion(tree.codes[x]);
        }
    }

    /** What count() returns; 2 to 4 are right only after refresh(). */
    private int number(int what) {
        switch (what) {
            case 0:
                return state.from.size;
            case 1:
                return state.to.size;
            case 2:
                return state.isWhole() ? ways.distance() : -1;
            case 3:
                return state.isWhole() ? ways.steps.count : -1;
            case 4:
                return state.isWhole() ? ways.pairs : -1;
            case 5:
                return state.from.keys(0);
            case 6:
                return state.to.keys(0);
            case 7:
            case 8:
            case 9:
                return state.prices[what - 7];
            case 10:
                return log.count;
            case 11:
                return rowsThere();
            case 12:
                return textsThere();
            default:
                return placesTaken();
        }
    }

    private int rowsThere() {
        int n = 0;
        for (int r = 0; r < ROWS; r++) {
            if (rows[r].length >= 0) {
                n++;
            }
        }
        return n;
    }

    private int textsThere() {
        int n = 0;
        for (int t = 0; t < TEXTS; t++) {
            if (texts[t].length >= 0) {
                n++;
            }
        }
        return n;
    }

    private int placesTaken() {
        int n = 0;
        for (int k = 0; k < PLACES; k++) {
            if (places[k].count >= 0) {
                n++;
            }
        }
        return n;
    }

    private long digestOfTree(long before, int d) {
        Tree tree = state.tree(d);
        long h = before;
        for (int x = 0; x < tree.size; x++) {
            h = 31L * h + tree.codes[x];
            h = 31L * h + tree.leftmost(x);
            h = 31L * h + tree.parent(x);
            h = 31L * h + (state.isWhole() ? ways.partnerOf(d, x) : -1);
        }
        return h;
    }

    // ---- labels

    private static int kindOf(int code) {
        if (code >= 'a' && code <= 'i') {
            return MARK;
        }
        if (code >= 'A' && code <= 'I') {
            return HEAD;
        }
        if (code >= '0' && code <= '9') {
            return WORD;
        }
        if (code >= 'J' && code <= 'R') {
            return TITLE;
        }
        if (code >= 'j' && code <= 'r') {
            return NOTE;
        }
        return NO_KIND;
    }

    /** Whether a kind is another one or a subclass of it. */
    private static boolean isOf(int kind, int other) {
        return kind == other || (kind == TITLE && other == HEAD) || (kind == NOTE && other == WORD);
    }

    private static int weightOf(int code) {
        int kind = kindOf(code);
        if (kind == TITLE) {
            return 3;
        }
        return kind == HEAD ? 2 : 1;
    }

    /** An array of ints; a length below 0 means that it does not exist. */
    private static final class Row {
        int length = ABSENT;
        final int[] items = new int[ROW_ROOM];

        void begin(int n) {
            length = n;
            for (int i = 0; i < ROW_ROOM; i++) {
                items[i] = 0;
            }
        }

        /** Whether n elements from index i on are not all there. */
        boolean lacks(int i, int n) {
            return i < 0 || (long) i + n > length;
        }

        long sum() {
            long sum = 0L;
            for (int i = 0; i < length; i++) {
                sum += items[i];
            }
            return sum;
        }

        long digestAfter(long before) {
            long h = 31L * before + length;
            for (int i = 0; i < length; i++) {
                h = 31L * h + items[i];
            }
            return h;
        }
    }

    /** A text; a length below 0 means that it does not exist. */
    private static final class Text {
        int length = ABSENT;
        final byte[] bytes = new byte[TEXT_ROOM];

        void begin(int n) {
            length = n;
            for (int i = 0; i < TEXT_ROOM; i++) {
                bytes[i] = ' ';
            }
        }

        /** Becomes what stands for the trees, and returns its length. */
        int print(Tree trees) {
            length = 0;
            for (int x = 0; x < trees.size; x++) {
                if (trees.spans[x] > 1) {
                    append(')');
                } else {
                    printDownTo(x, trees);
                }
            }
            return length;
        }

        /** The nodes that have leaf x as their leftmost one begin here, the highest one first. */
        private void printDownTo(int x, Tree trees) {
            for (int y = trees.size - 1; y >= x; y--) {
                if (trees.leftmost(y) == x) {
                    append(trees.codes[y]);
                    if (y > x) {
                        append('(');
                    }
                }
            }
        }

        private void append(int v) {
            if (length >= 0 && length < TEXT_ROOM) {
                bytes[length] = (byte) v;
                length++;
            }
        }

        long digestAfter(long before) {
            long h = 31L * before + length;
            for (int i = 0; i < length; i++) {
                h = 31L * h + bytes[i];
            }
            return h;
        }
    }

    /**
     * Trees side by side, one for a document, none for one that does not exist. The nodes stand in
     * postorder; how many nodes each one and its descendants are tells the whole shape.
     */
    private static final class Tree {
        int size = 0;
        final int[] codes = new int[NODES];
        final int[] spans = new int[NODES];

        boolean has(int x) {
            return x >= 0 && x < size;
        }

        int leftmost(int x) {
            return x - spans[x] + 1;
        }

        int parent(int x) {
            for (int y = x + 1; y < size; y++) {
                if (leftmost(y) <= x) {
                    return y;
                }
            }
            return NONE;
        }

        int children(int x) {
            int n = 0;
            for (int c = leftmost(x); c < x; c++) {
                if (parent(c) == x) {
                    n++;
                }
            }
            return n;
        }

        int ancestors(int x) {
            int n = 0;
            for (int y = x + 1; y < size; y++) {
                if (leftmost(y) <= x) {
                    n++;
                }
            }
            return n;
        }

        int headsBelow(int x) {
            int n = 0;
            for (int y = leftmost(x); y < x; y++) {
                if (isOf(kindOf(codes[y]), HEAD)) {
                    n++;
                }
            }
            return n;
        }

        int nodesWith(int code) {
            int n = 0;
            for (int x = 0; x < size; x++) {
                if (codes[x] == code) {
                    n++;
                }
            }
            return n;
        }

        /** Side 0 for keys, 1 for right keys. */
        boolean isKey(int x, int side) {
            int parent = parent(x);
            if (parent == NONE) {
                return true;
            }
            return side == 0 ? leftmost(parent) != leftmost(x) : parent != x + 1;
        }

        int keys(int side) {
            int n = 0;
            for (int x = 0; x < size; x++) {
                if (isKey(x, side)) {
                    n++;
                }
            }
            return n;
        }

        int keySizes(int side) {
            int n = 0;
            for (int x = 0; x < size; x++) {
                if (isKey(x, side)) {
                    n += spans[x];
                }
            }
            return n;
        }

        void take(Tree other) {
            size = other.size;
            System.arraycopy(other.codes, 0, codes, 0, NODES);
            System.arraycopy(other.spans, 0, spans, 0, NODES);
        }

        /** Adds a node above the last nodes, so many that it spans the given number with itself. */
        void append(int code, int span) {
            if (size < NODES) {
                codes[size] = code;
                spans[size] = span;
                size++;
            }
        }

        boolean canLose(int x) {
            return x != size - 1 || children(x) == 1;
        }

        void remove(int x) {
            for (int y = x + 1; y < size; y++) {
                if (leftmost(y) <= x) {
                    spans[y]--;
                }
            }
            for (int y = x; y < size - 1; y++) {
                codes[y] = codes[y + 1];
                spans[y] = spans[y + 1];
            }
            size--;
        }

        /** Puts a node between x and n of its children, from place i on; there is room for it. */
        int insert(int x, int i, int n, int code) {
            int first = endOfChildren(x, i);
            int spot = endOfChildren(x, i + n);
            for (int y = x; y < size; y++) {
                if (leftmost(y) <= x) {
                    spans[y]++;
                }
            }
            for (int y = size; y > spot; y--) {
                codes[y] = codes[y - 1];
                spans[y] = spans[y - 1];
            }
            codes[spot] = code;
            spans[spot] = spot - first + 1;
            size++;
            return spot;
        }

        /** The number that follows the first n children of x and all their descendants. */
        private int endOfChildren(int x, int n) {
            int end = leftmost(x);
            int seen = 0;
            for (int c = leftmost(x); c < x && seen < n; c++) {
                if (parent(c) == x) {
                    end = c + 1;
                    seen++;
                }
            }
            return end;
        }
    }

    /** Reads the document of a text into its tree. */
    private static final class Reader {
        private static final int START = 0, LABEL = 1, OPEN = 2, CLOSE = 3;

        final Tree tree = new Tree();
        private final int[] openCodes = new int[NODES];
        private final int[] openStarts = new int[NODES];
        private int depth = 0;
        private int labels = 0;
        private int last = START;

        /** Returns the fault of a text, or NONE; the tree is of use only then. */
        int read(Text text) {
            tree.size = 0;
            depth = 0;
            labels = 0;
            last = START;
            for (int i = 0; i < text.length; i++) {
                if (!accepts(text.bytes[i])) {
                    return i;
                }
            }
            return labels > 0 && depth == 0 ? NONE : text.length;
        }

        private boolean accepts(int v) {
            switch (v) {
                case ' ':
                    return true;
                case '(':
                    return opens();
                case ')':
                    return closes();
                default:
                    return kindOf(v) != NO_KIND && begins(v);
            }
        }

        /** A label is a leaf until a parenthesis behind it says otherwise. */
        private boolean begins(int code) {
            if (labels >= NODES || (labels > 0 && depth == 0)) {
                return false;
            }
            tree.append(code, 1);
            labels++;
            last = LABEL;
            return true;
        }

        private boolean opens() {
            if (last != LABEL || tree.size == 0 || depth >= NODES) {
                return false;
            }
            tree.size--;
            openCodes[depth] = tree.codes[tree.size];
            openStarts[depth] = tree.size;
            depth++;
            last = OPEN;
            return true;
        }

        private boolean closes() {
            if (last == OPEN || depth == 0) {
                return false;
            }
            depth--;
            tree.append(openCodes[depth], tree.size - openStarts[depth] + 1);
            last = CLOSE;
            return true;
        }
    }

    /** What changes change: both documents and the prices. */
    private static final class State {
        private static final int TREE_ROOM = 1 + NODES;
        private static final int ROOM = PRICES + 2 * TREE_ROOM;

        final Tree from = new Tree();
        final Tree to = new Tree();
        final int[] prices = {1, 1, 1};

        Tree tree(int d) {
            return d == 0 ? from : to;
        }

        boolean isWhole() {
            return from.size > 0 && to.size > 0;
        }

        int insertion(int code) {
            return prices[INSERT] * weightOf(code);
        }

        int deletion(int code) {
            return prices[DELETE] * weightOf(code);
        }

        int relabelling(int code, int other) {
            if (code == other) {
                return 0;
            }
            int kind = kindOf(code);
            if (kind != kindOf(other)) {
                return 2 * prices[RELABEL];
            }
            return kind == WORD ? prices[RELABEL] * Math.min(3, Math.abs(code - other)) : prices[RELABEL];
        }

        void pack(int[] room, int start) {
            System.arraycopy(prices, 0, room, start, PRICES);
            packTree(from, room, start + PRICES);
            packTree(to, room, start + PRICES + TREE_ROOM);
        }

        void unpack(int[] room, int start) {
            System.arraycopy(room, start, prices, 0, PRICES);
            unpackTree(from, room, start + PRICES);
            unpackTree(to, room, start + PRICES + TREE_ROOM);
        }

        /** A code and a span share an int, which halves what an object takes. */
        private static void packTree(Tree tree, int[] room, int start) {
            room[start] = tree.size;
            for (int x = 0; x < tree.size; x++) {
                room[start + 1 + x] = tree.codes[x] << 4 | tree.spans[x];
            }
        }

        private static void unpackTree(Tree tree, int[] room, int start) {
            tree.size = room[start];
            for (int x = 0; x < tree.size; x++) {
                tree.codes[x] = room[start + 1 + x] >> 4;
                tree.spans[x] = room[start + 1 + x] & 15;
            }
        }
    }

    /**
     * The recorded changes: for each one the state before it, and room for the state after the last.
     * A count below 0 means that a place for saved states is empty.
     */
    private static final class Log {
        int count;
        private final int[] states = new int[(CHANGES + 1) * State.ROOM];

        Log(int count) {
            this.count = count;
        }

        /** Holds a state behind the recorded changes. */
        void hold(State state) {
            if (count >= 0 && count <= CHANGES) {
                state.pack(states, count * State.ROOM);
            }
        }

        /** Gives the state back that hold() has put behind so many changes. */
        void give(State state) {
            if (count >= 0 && count <= CHANGES) {
                state.unpack(states, count * State.ROOM);
            }
        }

        void take(Log other) {
            count = other.count;
            System.arraycopy(other.states, 0, states, 0, states.length);
        }
    }

    /** The steps of the best mapping, in their order. */
    private static final class Steps {
        int count = 0;
        final int[] sorts = new int[2 * NODES];
        final int[] nodes = new int[2 * NODES];
        final int[] costs = new int[2 * NODES];

        void append(int sort, int node, int cost) {
            if (count < 2 * NODES) {
                sorts[count] = sort;
                nodes[count] = node;
                costs[count] = cost;
                count++;
            }
        }
    }

    /** Distances, best mapping and steps between the documents of its state, if this has both. */
    private static final class Ways {
        final State state = new State();
        boolean stale = true;
        int pairs = 0;
        final Steps steps = new Steps();
        /** The distances of nodes. */
        final int[][] apart = new int[NODES][NODES];
        /** The costs of relabelling. */
        final int[][] swaps = new int[NODES][NODES];
        private final Tree from = state.from;
        private final Tree to = state.to;
        private final int[] drops = new int[NODES];
        private final int[] gains = new int[NODES];
        /** As apart, but with the two nodes as partners. */
        private final int[][] joined = new int[NODES][NODES];
        /** forest[i][j]: the distance of the nodes before i and before j, from where fill() began. */
        private final int[][] forest = new int[NODES + 1][NODES + 1];
        private final int[] partners = new int[NODES];
        private final int[] origins = new int[NODES];

        /** Solves what a change has made stale, if both documents are there. */
        void refresh() {
            if (stale && state.isWhole()) {
                measure();
                pairUp();
                listSteps();
                stale = false;
            }
        }

        int distance() {
            return from.size > 0 && to.size > 0 ? apart[from.size - 1][to.size - 1] : 0;
        }

        int between(int d, int x, int y) {
            return d == 0 ? apart[x][y] : apart[y][x];
        }

        int partnerOf(int d, int x) {
            return d == 0 ? partners[x] : origins[x];
        }

        /** Pairs of keys by ascending numbers find all that they need measured before. */
        void measure() {
            setPrices();
            for (int x = 0; x < from.size; x++) {
                if (from.isKey(x, 0)) {
                    for (int y = 0; y < to.size; y++) {
                        if (to.isKey(y, 0)) {
                            fill(from.leftmost(x), x, to.leftmost(y), y);
                        }
                    }
                }
            }
        }

        private void setPrices() {
            for (int y = 0; y < to.size; y++) {
                gains[y] = state.insertion(to.codes[y]);
            }
            for (int x = 0; x < from.size; x++) {
                drops[x] = state.deletion(from.codes[x]);
                for (int y = 0; y < to.size; y++) {
                    swaps[x][y] = state.relabelling(from.codes[x], to.codes[y]);
                }
            }
        }

        /** Measures the nodes from l to x against those from m to y, and all that begins with both. */
        private void fill(int l, int x, int m, int y) {
            forest[l][m] = 0;
            for (int j = m; j <= y; j++) {
                forest[l][j + 1] = forest[l][j] + gains[j];
            }
            for (int i = l; i <= x; i++) {
                int p = from.leftmost(i);
                forest[i + 1][m] = forest[i][m] + drops[i];
                for (int j = m; j <= y; j++) {
                    int q = to.leftmost(j);
                    boolean twoTrees = p == l && q == m;
                    if (twoTrees) {
                        joined[i][j] = forest[i][j] + swaps[i][j];
                    }
                    int oneAlone = Math.min(forest[i][j + 1] + drops[i], forest[i + 1][j] + gains[j]);
                    forest[i + 1][j + 1] = Math.min(oneAlone, forest[p][q] + joined[i][j]);
                    if (twoTrees) {
                        apart[i][j] = forest[i + 1][j + 1];
                    }
                }
            }
        }

        /** What is below a pair is paired after it: its numbers are smaller. */
        private void pairUp() {
            pairs = 0;
            for (int n = 0; n < NODES; n++) {
                partners[n] = NONE;
                origins[n] = NONE;
            }
            pairForests(0, from.size - 1, 0, to.size - 1);
            for (int x = from.size - 1; x >= 0; x--) {
                int y = partners[x];
                if (y != NONE) {
                    pairForests(from.leftmost(x), x - 1, to.leftmost(y), y - 1);
                }
            }
        }

        /** Pairs the nodes from l to x with those from m to y, but leaves out what is below a pair. */
        private void pairForests(int l, int x, int m, int y) {
            fill(l, x, m, y);
            int next = x;
            int end = y;
            for (int i = x; i >= l; i--) {
                int j = i <= next ? greatestPartner(i, m, end) : NONE;
                if (j != NONE) {
                    partners[i] = j;
                    origins[j] = i;
                    pairs++;
                    next = from.leftmost(i) - 1;
                    end = to.leftmost(j) - 1;
                }
            }
        }

        /** With a partner of the last node i, all nodes behind the partner must be inserted. */
        private int greatestPartner(int i, int m, int end) {
            int inserted = 0;
            for (int j = end; j >= m; j--) {
                int beside = forest[from.leftmost(i)][to.leftmost(j)];
                if (beside + joined[i][j] + inserted == forest[i + 1][end + 1]) {
                    return j;
                }
                inserted += gains[j];
            }
            return NONE;
        }

        private void listSteps() {
            steps.count = 0;
            for (int x = 0; x < from.size; x++) {
                if (partners[x] == NONE) {
                    steps.append(DELETION, x, drops[x]);
                }
            }
            for (int x = 0; x < from.size; x++) {
                int y = partners[x];
                if (y != NONE && from.codes[x] != to.codes[y]) {
                    steps.append(RELABELLING, x, swaps[x][y]);
                }
            }
            for (int y = to.size - 1; y >= 0; y--) {
                if (origins[y] == NONE) {
                    steps.append(INSERTION, y, gains[y]);
                }
            }
        }

        /** The trees after k steps: document 1 less what is not inserted yet, or document 0 changed. */
        void grow(int k, Tree trees) {
            if (k < steps.count && steps.sorts[k] != INSERTION) {
                trees.take(from);
                relabelUpTo(k, trees);
                for (int s = k - 1; s >= 0; s--) {
                    removeStep(s, DELETION, trees);
                }
            } else {
                trees.take(to);
                for (int s = k; s < steps.count; s++) {
                    removeStep(s, INSERTION, trees);
                }
            }
        }

        private void relabelUpTo(int k, Tree trees) {
            for (int s = 0; s < k; s++) {
                int x = steps.nodes[s];
                if (steps.sorts[s] == RELABELLING && partners[x] != NONE) {
                    trees.codes[x] = to.codes[partners[x]];
                }
            }
        }

        /** Called by descending numbers, so that those of the other nodes to remove stay right. */
        private void removeStep(int s, int sort, Tree trees) {
            if (steps.sorts[s] == sort && trees.has(steps.nodes[s])) {
                trees.remove(steps.nodes[s]);
            }
        }
    }
}
