import java.util.ArrayList;
import java.util.List;

/** What digest() is due to return, put together from what the other calls tell of the same object. */
final class Digest {
    private final Tape tape;
    private final List<Long> values = new ArrayList<>();

    private Digest(Tape tape) {
        this.tape = tape;
    }

    static long of(Tape tape) {
        Digest digest = new Digest(tape);
        digest.addCounts();
        digest.addNodes(0);
        digest.addNodes(1);
        digest.addPlaces();
        digest.addArrays("at", 6, 40);
        digest.addArrays("put", 4, 60);
        return hash(digest.values.stream().mapToLong(v -> v).toArray());
    }

    static long hash(long... values) {
        long h = 17;
        for (long v : values) {
            h = 31 * h + v;
        }
        return h;
    }

    private void addCounts() {
        Tape other = tape.again();
        for (int what = 0; what <= 13; what++) {
            values.add(other.call("count", what));
        }
    }

    private void addNodes(int d) {
        int nodes = (int) tape.again().call("count", d);
        for (int x = 0; x < nodes; x++) {
            Tape other = tape.again();
            for (int what = 0; what <= 4; what += 2) {
                other.call("node", d, x, what);
                values.add(other.call("asked"));
            }
            long partner = other.call("partner", d, x);
            values.add(partner == MarkScripts.STATE ? -1 : partner);
        }
    }

    private void addPlaces() {
        for (int k = 0; k < 3; k++) {
            long changes = tape.again().call("on", k);
            values.add(changes == MarkScripts.FINDING ? -1 : changes);
        }
    }

    /** Reads on until an index is outside; the elements stand behind their number. */
    private void addArrays(String call, int arrays, int most) {
        for (int r = 0; r < arrays; r++) {
            Tape other = tape.again();
            List<Long> elements = new ArrayList<>();
            for (int i = 0; i <= most; i++) {
                long got = call.equals("at") ? other.call(call, r, i) : other.call(call, r, i, 0);
                if (got < 0) {
                    break;
                }
                elements.add(call.equals("at") ? other.call("asked") : got - 1000);
            }
            values.add(other.call("finding") == 1 ? -1L : elements.size());
            values.addAll(elements);
        }
    }
}
