import java.util.ArrayList;
import java.util.HashMap;
import java.util.List;
import java.util.Map;

/**
 * The sentences of the document, each with runs of calls that would show it broken. A quoted
 * sentence must stand in the document, in the section of its promise (0 for the description, -1 for
 * what stands before it), and every sentence there must be quoted by a test.
 */
final class Sentence {
    static final int OPENING = -1, DESCRIPTION = 0, PROMISES = 36;
    private static final String FILES = "src/test/sentences/";

    private static final Map<Integer, List<String>> QUOTED = new HashMap<>();
    private static Map<Integer, String> sections;

    private Sentence() {
    }

    /**
     * Carries out a file: "== promise n", "== description" or "== what it is" says where the
     * sentences stand that follow; a sentence is quoted behind "> ", and what stands below it, up to
     * an empty line, is a run for it (see Script), as is each paragraph up to the next sentence.
     */
    static void runFile(String name) {
        int promise = DESCRIPTION;
        String words = "";
        for (String paragraph : Page.read(FILES + name).text.split("\n\\s*\n")) {
            StringBuilder quoted = new StringBuilder();
            StringBuilder run = new StringBuilder();
            for (String line : paragraph.split("\n")) {
                if (line.startsWith("== ")) {
                    promise = section(line.substring(3).strip());
                } else if (line.startsWith("> ")) {
                    quoted.append(line.substring(1));
                } else {
                    run.append(line).append('\n');
                }
            }
            words = quoted.length() > 0 ? quoted.toString() : words;
            if (run.length() > 0) {
                Calls.run(quote(promise, words), run.toString());
            } else if (quoted.length() > 0) {
                Calls.fail(title(promise, words) + " has no run");
            }
        }
    }

    private static int section(String head) {
        switch (head) {
            case "what it is":
                return OPENING;
            case "description":
                return DESCRIPTION;
            default:
                return Integer.parseInt(head.replace("promise ", ""));
        }
    }

    /** Says that a test is for these words, and returns what it is called. */
    static String quote(int promise, String words) {
        String plain = normal(words);
        QUOTED.computeIfAbsent(promise, p -> new ArrayList<>()).add(plain);
        if (plain.isEmpty() || !normal(sections().getOrDefault(promise, "")).contains(plain)) {
            Calls.fail(title(promise, words) + ": this does not stand in the document");
        }
        return title(promise, words);
    }

    private static String title(int promise, String words) {
        String section = promise == OPENING ? "what it is" : promise == DESCRIPTION ? "description" : "promise " + promise;
        return section + ", \"" + normal(words) + "\"";
    }

    /** Fails for each sentence of the document that no test has quoted. */
    static void checkThatAllAreQuoted() {
        for (int promise = OPENING; promise <= PROMISES; promise++) {
            List<String> parts = parts(sections().getOrDefault(promise, ""));
            Calls.equal("sentences of section " + promise, parts.isEmpty() ? 0 : 1, 1);
            for (String part : parts) {
                Calls.equal("a test for " + title(promise, part), isQuoted(promise, part) ? 1 : 0, 1);
            }
        }
    }

    private static boolean isQuoted(int promise, String part) {
        for (String words : QUOTED.getOrDefault(promise, List.of())) {
            if (words.contains(part) || part.contains(words)) {
                return true;
            }
        }
        return false;
    }

    private static String normal(String words) {
        return words.replaceAll("\\s+", " ").strip();
    }

    /** A line about an argument is one part; a paragraph has a part for each end and each semicolon. */
    private static List<String> parts(String section) {
        List<String> parts = new ArrayList<>();
        for (String paragraph : section.split("\n\\s*\n|\n(?=- )")) {
            String text = normal(paragraph);
            if (text.startsWith("- ")) {
                parts.add(text.substring(2));
            } else if (!text.startsWith("`") && !text.startsWith("----") && !text.equals(text.toUpperCase())) {
                for (String part : text.split("; |(?<=[.]\\)?) (?=[(A-Z0-9])")) {
                    parts.add(part.replaceAll("[.]$", ""));
                }
            }
        }
        return parts;
    }

    private static Map<Integer, String> sections() {
        if (sections == null) {
            sections = new HashMap<>();
            for (String part : Page.document().text.split("\n## ")) {
                String head = part.substring(0, Math.max(0, part.indexOf('\n')));
                String body = part.substring(head.length());
                if (head.equals("What it is")) {
                    sections.put(OPENING, body);
                } else if (head.equals("Description")) {
                    sections.put(DESCRIPTION, body.substring(0, Math.max(0, body.indexOf("\nExamples:"))));
                } else if (head.startsWith("Promise ")) {
                    sections.put(Integer.parseInt(head.substring(8, head.indexOf(':'))), body);
                }
            }
        }
        return sections;
    }
}
