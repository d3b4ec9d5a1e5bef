import java.util.Random;

/**
 * The distance, the best mapping and its steps against the document's definition: every mapping of
 * two small documents is tried. What the documents look like is asked from the class by node().
 */
public final class MappingTest {
    private static final int PAIRS = 1500, MOST = 6;
    private static final String LABELS = "abcABJK0147jk";

    private final Random random;
    private final MarkScripts object = new MarkScripts();
    private int from;
    private int to;
    private int[] trial;
    private int[] best;
    private int least = Integer.MAX_VALUE;

    private MappingTest(long seed) {
        random = new Random(seed);
    }

    public static void main(String[] args) {
        for (int seed = 0; seed < PAIRS; seed++) {
            new MappingTest(seed).run("pair " + seed);
        }
        Calls.end("MappingTest");
    }

    private void run(String title) {
        from = read(0);
        to = read(1);
        for (int what = 0; what < 3; what++) {
            object.price(what, 1 + random.nextInt(random.nextBoolean() ? 2 : 9));
        }
        trial = new int[from];
        search(from - 1);
        Calls.equal(title + ": least()", object.least(), least);
        int pairs = 0;
        for (int x = 0; x < from; x++) {
            Calls.equal(title + ": partner(0, " + x + ")", object.partner(0, x), best[x]);
            if (best[x] != MarkScripts.NONE) {
                pairs++;
                Calls.equal(title + ": partner(1, " + best[x] + ")", object.partner(1, best[x]), x);
            }
        }
        Calls.equal(title + ": pairs", object.count(4), pairs);
        Calls.equal(title + ": the sum of the steps", sumOfSteps(), least);
        checkEnds(title);
    }

    private int sumOfSteps() {
        int sum = 0;
        for (int k = 0; k < object.count(3); k++) {
            object.step(k, 2);
            sum += object.asked();
        }
        return sum;
    }

    /** Document 0 after no step, document 1 after all. */
    private void checkEnds(String title) {
        for (int d = 0; d < 2; d++) {
            String due = Calls.spell(object, 0, object.write(d, 0));
            String got = Calls.spell(object, 0, object.behind(d == 0 ? 0 : object.count(3), 0));
            if (!got.equals(due)) {
                Calls.fail(title + ": " + got + " stands at an end of the steps, due is " + due);
            }
        }
    }

    private int read(int d) {
        String text = tree(1 + random.nextInt(MOST));
        Calls.type(object, 0, text);
        return object.document(d, 0);
    }

    private String tree(int n) {
        StringBuilder text = new StringBuilder().append(LABELS.charAt(random.nextInt(LABELS.length())));
        int left = n - 1;
        text.append(left > 0 ? "(" : "");
        while (left > 0) {
            int part = 1 + random.nextInt(left);
            text.append(tree(part));
            left -= part;
        }
        return text.append(n > 1 ? ")" : "").toString();
    }

    /** Greatest partners of the last nodes first: then the first of equal cost is the best one. */
    private void search(int x) {
        if (x < 0) {
            int cost = costOfTrial();
            if (cost < least) {
                least = cost;
                best = trial.clone();
            }
            return;
        }
        for (int y = to - 1; y >= 0; y--) {
            trial[x] = y;
            if (fits(x)) {
                search(x - 1);
            }
        }
        trial[x] = MarkScripts.NONE;
        search(x - 1);
    }

    private boolean fits(int x) {
        for (int other = x + 1; other < from; other++) {
            if (trial[other] != MarkScripts.NONE
                    && (trial[other] == trial[x] || relation(0, x, other) != relation(1, trial[x], trial[other]))) {
                return false;
            }
        }
        return true;
    }

    /** 1 x is above y, 2 y is above x, 3 x is to the left, 4 y is to the left. */
    private int relation(int d, int x, int y) {
        if (isAbove(d, x, y)) {
            return 1;
        }
        if (isAbove(d, y, x)) {
            return 2;
        }
        return x < y ? 3 : 4;
    }

    private boolean isAbove(int d, int x, int y) {
        int up = look(d, y, 4);
        while (up != MarkScripts.NONE && up != x) {
            up = look(d, up, 4);
        }
        return up == x;
    }

    private int look(int d, int x, int what) {
        object.node(d, x, what);
        return object.asked();
    }

    private int costOfTrial() {
        int cost = 0;
        boolean[] reached = new boolean[to];
        for (int x = 0; x < from; x++) {
            if (trial[x] == MarkScripts.NONE) {
                cost += look(0, x, 8);
            } else {
                reached[trial[x]] = true;
                object.cost(x, trial[x]);
                cost += object.asked();
            }
        }
        for (int y = 0; y < to; y++) {
            cost += reached[y] ? 0 : look(1, y, 7);
        }
        return cost;
    }
}
