import java.io.IOException;
import java.io.UncheckedIOException;
import java.nio.file.Files;
import java.nio.file.Path;
import java.util.ArrayList;
import java.util.List;
import java.util.regex.Matcher;
import java.util.regex.Pattern;

/** A page of text, with sections behind "## " and blocks of code between lines of three backquotes. */
final class Page {
    private static final Pattern BLOCK = Pattern.compile("(?s)\n```(\\w+)\n(.*?)\n```");

    final String text;

    private Page(String text) {
        this.text = text;
    }

    static Page document() {
        return read("../shared/DOC.md");
    }

    static Page readme() {
        return read("README.md");
    }

    static Page read(String file) {
        try {
            return new Page(Files.readString(Path.of(file)));
        } catch (IOException e) {
            throw new UncheckedIOException(e);
        }
    }

    /** What stands below a headline; empty if there is no such one. */
    Page section(String head) {
        for (String part : text.split("\n## ")) {
            if (part.startsWith(head + "\n")) {
                return new Page(part.substring(head.length()));
            }
        }
        return new Page("");
    }

    /** The lines of the first block of a language; none if there is no such block. */
    List<String> block(String language) {
        Matcher blocks = BLOCK.matcher(text);
        while (blocks.find()) {
            if (blocks.group(1).equals(language)) {
                return List.of(blocks.group(2).split("\n"));
            }
        }
        return List.of();
    }

    /** The document's examples, each as its calls, "name(arguments) = answer", in their order. */
    static List<List<String>> examples() {
        List<List<String>> examples = new ArrayList<>();
        String part = document().section("Description").text;
        String words = part.substring(part.indexOf("\nExamples:")).split("\n\\s*\n")[0];
        for (String example : words.split("\n(?=\\d+\\. )")) {
            if (!example.startsWith("\nExamples:")) {
                String calls = example.substring(example.indexOf(": ") + 2).replaceAll("\\s+", " ").strip();
                examples.add(List.of(calls.replaceAll("\\.$", "").split("; ")));
            }
        }
        return examples;
    }
}
