import java.util.ArrayList;
import java.util.Arrays;
import java.util.List;
import java.util.Random;

/** Long runs of calls, right and wrong ones, on the class and on the model; both must agree on all. */
public final class ModelTest {
    private static final int RUNS = 220, LENGTH = 250;
    private static final String LABELS = "abirABIR0135jkrJKR";
    private static final int[] ODD = {Integer.MIN_VALUE, -2, -1, 41, 61, 1000, Integer.MAX_VALUE};

    private final Random random;
    private final MarkScripts object = new MarkScripts();
    private final Model model = new Model();
    private final List<String> calls = new ArrayList<>();
    private boolean wrong = false;

    private ModelTest(long seed) {
        random = new Random(seed);
    }

    public static void main(String[] args) {
        for (int run = 0; run < RUNS; run++) {
            new ModelTest(run).run(run);
        }
        Calls.end("ModelTest");
    }

    private void run(int run) {
        int length = run % 5 == 0 ? Tape.MOST_CALLS : LENGTH;
        for (int c = 0; calls.size() < length - 1 && !wrong; c++) {
            if (c == 3 || random.nextInt(25) == 0) {
                read(random.nextInt(2), run % 3 == 0 ? 5 : 12);
            } else if (random.nextInt(9) == 0) {
                call("digest");
            } else {
                oneCall();
            }
        }
        call("digest");
    }

    private void call(String name, int... arguments) {
        if (calls.size() == Tape.MOST_CALLS) {
            return;
        }
        String inside = Arrays.toString(arguments);
        calls.add(name + "(" + inside.substring(1, inside.length() - 1) + ")");
        long due = Tape.invoke(model, name, arguments);
        long got = Tape.invoke(object, name, arguments);
        Calls.equal("", 0, 0);
        if (got != due && !wrong) {
            wrong = true;
            Calls.fail(String.join("; ", calls) + " answered " + got + ", due is " + due);
        }
    }

    private void read(int d, int most) {
        int t = random.nextInt(4);
        type(t, tree(1 + random.nextInt(most)));
        call("fault", t);
        call("document", d, t);
    }

    private void type(int t, String text) {
        call("text", t, text.length());
        for (int i = 0; i < text.length(); i++) {
            call("put", t, i, text.charAt(i));
        }
    }

    /** A document of n nodes; now and then with spaces. */
    private String tree(int n) {
        StringBuilder text = new StringBuilder().append(label());
        if (n > 1) {
            text.append(random.nextInt(12) == 0 ? " (" : "(");
            int left = n - 1;
            while (left > 0) {
                int part = 1 + random.nextInt(left);
                text.append(tree(part));
                left -= part;
            }
            text.append(')');
        }
        return text.toString();
    }

    private char label() {
        return LABELS.charAt(random.nextInt(LABELS.length()));
    }

    /** A text that is nearly a document. */
    private String brokenText() {
        StringBuilder text = new StringBuilder(tree(1 + random.nextInt(14)));
        for (int c = random.nextInt(3); c > 0; c--) {
            int i = random.nextInt(text.length());
            switch (random.nextInt(3)) {
                case 0:
                    text.setCharAt(i, " ()()asSz:@[`/~".charAt(random.nextInt(15)));
                    break;
                case 1:
                    text.insert(i, " ()()b7".charAt(random.nextInt(7)));
                    break;
                default:
                    text.deleteCharAt(i);
            }
            if (text.length() == 0) {
                return "";
            }
        }
        return text.length() > 60 ? text.substring(0, 60) : text.toString();
    }

    /** Mostly 0 to below, now and then far out or just beside it. */
    private int some(int below) {
        switch (random.nextInt(24)) {
            case 0:
                return ODD[random.nextInt(ODD.length)];
            case 1:
                return below;
            case 2:
                return -1;
            default:
                return random.nextInt(below);
        }
    }

    private int someNode(int d) {
        int nodes = d == 0 || d == 1 ? model.count(d) : 1;
        return some(Math.max(1, nodes));
    }

    private int someCode() {
        return random.nextInt(8) == 0 ? random.nextInt(256) - 64 : label();
    }

    private void oneCall() {
        int d = some(2);
        switch (random.nextInt(34)) {
            case 0: call("row", some(6), some(random.nextBoolean() ? 41 : 5)); break;
            case 1: call("lay", some(6), some(4), random.nextInt()); break;
            case 2: call("at", some(6), some(4)); call("asked"); break;
            case 3: if (random.nextInt(3) == 0) call("tear", some(6)); break;
            case 4: call("copy", some(6), some(4), some(6), some(4), some(4)); break;
            case 5: call("mean", some(6)); call("asked"); break;
            case 6: call("text", some(4), some(61)); break;
            case 7: call("put", some(4), some(20), random.nextInt()); break;
            case 8: type(3, brokenText()); call("fault", 3); break;
            case 9: call("fault", some(4)); break;
            case 10: if (random.nextInt(3) == 0) call("document", d, some(4)); break;
            case 11: call("write", d, some(4)); break;
            case 12: case 13: call("node", d, someNode(d), some(9)); call("asked"); break;
            case 14: call("mark", d, someNode(d), 1 + some(4)); call("asked"); break;
            case 15: call("least"); call("asked"); break;
            case 16: call("cost", someNode(0), someNode(1)); call("asked"); break;
            case 17: call("partner", d, someNode(d)); break;
            case 18: call("step", some(12), some(3)); call("asked"); break;
            case 19: case 20: call("behind", some(16), some(4)); break;
            case 21: call("work", some(2)); call("asked"); break;
            case 22: call("nearest", d, someNode(d)); call("asked"); break;
            case 23: call("would", d, someNode(d), someCode()); call("asked"); break;
            case 24: call("change", d, someNode(d), someCode()); break;
            case 25: call("cut", d, someNode(d)); break;
            case 26: case 27: call("add", d, someNode(d), some(3), some(3), someCode()); break;
            case 28: call("price", some(3), some(10)); break;
            case 29: call("turn"); break;
            case 30: call("undo", random.nextInt(3) == 0 ? some(41) : Math.max(0, model.count(10) - some(3))); break;
            case 31: call("keep", some(3)); break;
            case 32: call("on", some(3)); break;
            default: deedsAndCounts();
        }
    }

    private void deedsAndCounts() {
        switch (random.nextInt(4)) {
            case 0: call("lots", 1 + some(20), random.nextInt() & Integer.MAX_VALUE); break;
            case 1: call("count", some(14)); break;
            case 2: call("findings", some(6)); break;
            default: call("finding");
        }
    }
}
