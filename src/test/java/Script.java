import java.util.ArrayList;
import java.util.Arrays;
import java.util.List;
import java.util.Map;
import java.util.regex.Matcher;
import java.util.regex.Pattern;

/**
 * A run of calls on a new object, written down as "name(arguments) = answer; ..". An answer is a
 * number, the name of a constant, FINDING with its number, or hash(values) as of digest(); MIN and
 * MAX are the ends of the ints. Before a call may stand:
 *
 *   told     it returns 1, and the answer is what asked() returns then
 *   refused  it changes nothing but what finding() and findings() return
 *   still    it may tell something by asked(), but changes nothing else
 *
 * "refused BAD: call, call" stands for several refused calls with the same answer. Lines that stand
 * for several calls:
 *
 *   type(t, 'text'), spell(t, 'text')       lays a text down; looks whether a text is this one
 *   one(d, 'tree'), two('tree', 'tree')     reads one document, or both, by way of text 0
 *   reads(d, 'tree'), after(k, 'trees')     what write(d, 3) or behind(k, 3) writes
 *   fault('text') = due                     the fault of text 1, which becomes this
 *   array(r: 1, 2), has(r: 1, 2)            makes an array; looks whether it has these elements
 *   nodes(d, what: 1, 2)                    what node() tells of all nodes of a document
 *   RICH, FORTY, THIRTY_NINE, FORTY_PRICES  a beginning, see scene()
 */
final class Script {
    private static final Map<String, Integer> NAMES =
        Map.of("BAD", -1, "FULL", -2, "FINDING", -3, "STATE", -4, "SPENT", -6, "NONE", -9);
    private static final Pattern CALL = Pattern.compile("\\w+\\([^)]*\\)");
    private static final Pattern QUOTED = Pattern.compile("'([^']*)'");

    private final String title;
    private final Tape tape = new Tape();

    private Script(String title) {
        this.title = title;
    }

    static void run(String title, String text) {
        Script script = new Script(title);
        for (String line : split(text)) {
            Calls.count();
            try {
                script.perform(line);
            } catch (IllegalStateException e) {
                Calls.fail(title + ": " + line + ": " + e.getMessage());
                return;
            }
        }
    }

    private static List<String> split(String text) {
        List<String> lines = new ArrayList<>();
        for (String line : text.replace('\n', ' ').split(";")) {
            if (!line.isBlank()) {
                lines.add(line.strip());
            }
        }
        return lines;
    }

    private void perform(String line) {
        if (shorthand(line)) {
            return;
        }
        int sign = line.lastIndexOf(" = ");
        String call = sign < 0 ? line : line.substring(0, sign).strip();
        String due = sign < 0 ? "" : line.substring(sign + 3).strip();
        String how = call.substring(0, Math.max(0, call.indexOf(' ')));
        String bare = call.substring(how.length()).strip();
        switch (how) {
            case "told":
                same(line, answer(bare), 1);
                same(line + ": asked()", tape.call("asked"), number(due));
                break;
            case "refused":
            case "still":
                unmoved(line, bare, due, how.equals("still"));
                break;
            default:
                plain(line, call, due);
        }
    }

    private void plain(String line, String call, String due) {
        long got = answer(call);
        if (!due.isEmpty()) {
            same(line, got, number(due));
            if (due.startsWith("FINDING ")) {
                same(line + ": finding()", tape.told()[1], findingOf(due));
            }
        }
    }

    /** Whether the line is one of those that stand for calls; then they are made. */
    private boolean shorthand(String line) {
        String name = line.replaceAll("[ (].*", "");
        switch (name) {
            case "RICH": case "FORTY": case "THIRTY_NINE": case "FORTY_PRICES":
                again(scene(name));
                return true;
            case "refused":
                return refusedCalls(line);
            case "type":
                tape.type(first(line), quoted(line, 0));
                return true;
            case "spell":
                spell(line, first(line), quoted(line, 0));
                return true;
            case "one":
                readDocument(line, first(line), quoted(line, 0));
                return true;
            case "two":
                readDocument(line, 0, quoted(line, 0));
                readDocument(line, 1, quoted(line, 1));
                return true;
            case "reads":
                same(line + ": write()", tape.call("write", first(line), 3), quoted(line, 0).length());
                spell(line, 3, quoted(line, 0));
                return true;
            case "after":
                same(line + ": behind()", tape.call("behind", first(line), 3), quoted(line, 0).length());
                spell(line, 3, quoted(line, 0));
                return true;
            case "array": case "has":
                array(line, name.equals("array"));
                return true;
            case "nodes":
                nodes(line);
                return true;
            case "fault":
                return faultOfText(line);
            default:
                return false;
        }
    }

    /** Beginnings of runs that many tests share. */
    private static String scene(String name) {
        switch (name) {
            case "RICH":
                // whatever a wrong call could spoil: arrays, texts, documents, a price, changes, a saved state, something told
                return """
                    row(0, 3) = 3; lay(0, 0, 7) = 1; lay(0, 1, -8) = 1; lay(0, 2, 9) = 1; row(5, 40) = 40; lay(5, 39, 5) = 1;
                    type(0, 'a(b(cd)K1)'); document(0, 0) = 6; type(3, 'A(b(0)k)'); document(1, 3) = 4; price(0, 2) = 1;
                    change(0, 0, 100) = 99; keep(1) = 2; add(1, 3, 0, 0, 74) = 0; type(2, 'a(b'); told at(0, 1) = -8""";
            case "FORTY_PRICES":
                // no room for another change, but all prices as at first
                return "price(0, 2) = 1; price(0, 1) = 2;".repeat(20);
            case "FORTY":
                return "two('a(bc)', 'b'); FORTY_PRICES; count(10) = 40";
            default:
                return "FORTY; undo(39) = 1; count(10) = 39; count(7) = 2";
        }
    }

    private void again(String text) {
        for (String line : split(text)) {
            perform(line);
        }
    }

    private boolean refusedCalls(String line) {
        int colon = line.indexOf(": ");
        if (colon < 0) {
            return false;
        }
        Matcher calls = CALL.matcher(line.substring(colon));
        while (calls.find()) {
            perform("refused " + calls.group() + " = " + line.substring(8, colon));
        }
        return true;
    }

    private static int first(String line) {
        return Integer.parseInt(line.substring(line.indexOf('(') + 1).replaceAll("[,:].*", "").strip());
    }

    private static String quoted(String line, int n) {
        Matcher words = QUOTED.matcher(line);
        for (int i = 0; i <= n; i++) {
            if (!words.find()) {
                throw new IllegalStateException("no text is given");
            }
        }
        return words.group(1);
    }

    private void spell(String line, int t, String due) {
        String got = tape.spell(t);
        if (!got.equals(due)) {
            Calls.fail(title + ": " + line + ", but it is " + got);
        }
    }

    private void readDocument(String line, int d, String text) {
        tape.type(0, text);
        same(line + ": document()", tape.call("document", d, 0), text.replaceAll("[() ]", "").length());
    }

    private static int[] behindColon(String line) {
        return numbers(line.substring(line.indexOf(':') + 1, line.lastIndexOf(')')));
    }

    /** array(r: elements) makes an array, has(r: elements) looks whether it has these and no more. */
    private void array(String line, boolean make) {
        int r = first(line);
        int[] values = behindColon(line);
        if (make) {
            same(line + ": row()", tape.call("row", r, values.length), values.length);
        }
        for (int i = 0; i < values.length; i++) {
            same(line, make ? tape.call("lay", r, i, values[i]) : tape.call("at", r, i), 1);
            same(line + ": element " + i, tape.call("asked"), make ? 0 : values[i]);
        }
        same(line + ": the end", tape.call("at", r, values.length), MarkScripts.FINDING);
    }

    /** nodes(d, what: values): what node() tells of all nodes of a document, which has no more than these. */
    private void nodes(String line) {
        int[] head = numbers(line.substring(line.indexOf('(') + 1, line.indexOf(':')));
        int[] values = behindColon(line);
        for (int x = 0; x < values.length; x++) {
            same(line + ": node()", tape.call("node", head[0], x, head[1]), 1);
            same(line + ": node " + x, tape.call("asked"), values[x]);
        }
        same(line + ": the end", tape.call("node", head[0], values.length, head[1]), MarkScripts.BAD);
    }

    /** fault('text') = due: the fault of text 1, which becomes this. */
    private boolean faultOfText(String line) {
        if (line.indexOf('\'') < 0) {
            return false;
        }
        tape.type(1, quoted(line, 0));
        same(line, tape.call("fault", 1), number(line.substring(line.lastIndexOf(" = ") + 3).strip()));
        return true;
    }

    /** A call that leaves everything as it was, but for asked() if it may tell, and the findings. */
    private void unmoved(String line, String call, String due, boolean mayTell) {
        List<Long> story = tape.story();
        long[] told = tape.told();
        same(line, answer(call), number(due));
        if (!tape.story().equals(story)) {
            Calls.fail(title + ": " + line + ": the call has changed something");
        }
        int f = findingOf(due);
        if (f > 0) {
            told[1] = f;
            told[f + 1]++;
        }
        long[] now = tape.told();
        if (mayTell) {
            now[0] = told[0];
        }
        if (!Arrays.equals(now, told)) {
            Calls.fail(title + ": " + line + ": asked(), finding() and findings() are " + Arrays.toString(now)
                + ", due is " + Arrays.toString(told));
        }
    }

    private void same(String line, long got, long due) {
        if (got != due) {
            Calls.fail(title + ": " + line + ", but the answer was " + got);
        }
    }

    private static long number(String due) {
        if (due.startsWith("hash(")) {
            return Digest.hash(Arrays.stream(numbers(due.substring(5, due.length() - 1))).asLongStream().toArray());
        }
        String name = due.split(" ")[0];
        return NAMES.containsKey(name) ? NAMES.get(name) : Long.parseLong(name);
    }

    private static int findingOf(String due) {
        return due.startsWith("FINDING ") ? Integer.parseInt(due.substring(8).strip()) : 0;
    }

    private long answer(String call) {
        int open = call.indexOf('(');
        if (open < 0) {
            throw new IllegalStateException("this is no call");
        }
        return tape.call(call.substring(0, open).strip(), numbers(call.substring(open + 1, call.lastIndexOf(')'))));
    }

    /** "3 * 7" stands for three times 7. */
    private static int[] numbers(String inside) {
        List<Integer> values = new ArrayList<>();
        for (String word : inside.isBlank() ? new String[0] : inside.split(",")) {
            String[] parts = word.split("\\*");
            for (int n = parts.length == 1 ? 1 : integer(parts[0]); n > 0; n--) {
                values.add(integer(parts[parts.length - 1]));
            }
        }
        return values.stream().mapToInt(v -> v).toArray();
    }

    private static int integer(String word) {
        switch (word.strip()) {
            case "MIN":
                return Integer.MIN_VALUE;
            case "MAX":
                return Integer.MAX_VALUE;
            default:
                return Integer.parseInt(word.strip());
        }
    }
}
