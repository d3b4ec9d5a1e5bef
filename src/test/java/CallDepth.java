import java.util.ArrayDeque;
import java.util.Deque;
import java.util.HashMap;
import java.util.Map;
import java.util.Set;
import java.util.TreeSet;
import java.util.regex.Matcher;
import java.util.regex.Pattern;

/**
 * How deep the methods of a source file call one another. Methods of one name are taken as one, so
 * the depth that is found is never too small.
 */
final class CallDepth {
    private static final Pattern HEAD = Pattern.compile("( {4}| {8})(?:\\w+ )*(?:[\\w\\[\\]]+ )?(\\w+)\\([^;]*\\) \\{");
    private static final Pattern CALL = Pattern.compile("\\b(\\w+)\\(");
    private static final Set<String> WORDS = Set.of("if", "for", "while", "switch");

    private final Map<String, Set<String>> calls = new HashMap<>();

    CallDepth(String code) {
        String method = "";
        String indent = "";
        for (String line : code.split("\n")) {
            Matcher head = HEAD.matcher(line);
            if (method.isEmpty() && head.matches() && !WORDS.contains(head.group(2))) {
                method = head.group(2);
                indent = head.group(1);
                calls.computeIfAbsent(method, m -> new TreeSet<>());
            } else if (line.equals(indent + "}")) {
                method = "";
            } else if (!method.isEmpty()) {
                Matcher call = CALL.matcher(line);
                while (call.find()) {
                    calls.get(method).add(call.group(1));
                }
            }
        }
    }

    int methods() {
        return calls.size();
    }

    /** The greatest number of methods that stand open at once; far too many if one calls itself. */
    int greatest() {
        int greatest = 0;
        for (String method : calls.keySet()) {
            greatest = Math.max(greatest, below(method, new ArrayDeque<>()));
        }
        return greatest;
    }

    private int below(String method, Deque<String> open) {
        if (open.contains(method)) {
            return 1000;
        }
        open.push(method);
        int deepest = 0;
        for (String callee : calls.get(method)) {
            if (calls.containsKey(callee)) {
                deepest = Math.max(deepest, below(callee, open));
            }
        }
        open.pop();
        return deepest + 1;
    }
}
