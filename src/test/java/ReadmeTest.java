import java.io.File;
import java.util.ArrayList;
import java.util.List;
import java.util.Set;
import java.util.TreeSet;
import java.util.regex.Matcher;
import java.util.regex.Pattern;

/** README.md: its face is the document's, its example answers so, its commands are those of .ci/run. */
public final class ReadmeTest {
    private static final Pattern CALL = Pattern.compile("m\\.(\\w+\\([-0-9, ]*\\)); +// (-?\\d+)(: .+)?");
    private static final Pattern TRY = Pattern.compile("try '(.*)'");
    private static final Pattern JAVA = Pattern.compile("(^|[\\s;&|('])javac?\\s");

    public static void main(String[] args) {
        Page readme = Page.readme();
        same("the face", readme.section("The face").block("java"), Page.document().section("The public face").block("java"));
        checkExample(readme.section("An example").block("java"));
        checkCommands(readme.section("Tests").block("sh"));
        checkNames(readme.section("Tests"));
        Calls.end("ReadmeTest");
    }

    /** Each line is a call with its answer, so it is Java too; all of it is the document's first example. */
    private static void checkExample(List<String> lines) {
        List<String> calls = new ArrayList<>();
        for (int i = 1; i < lines.size(); i++) {
            Matcher line = CALL.matcher(lines.get(i));
            if (line.matches()) {
                calls.add(line.group(1) + " = " + line.group(2));
            } else {
                Calls.fail("this is no call with its answer: " + lines.get(i));
            }
        }
        same("the example begins", lines.isEmpty() ? "" : lines.get(0), "MarkScripts m = new MarkScripts();");
        same("the example", calls, Page.examples().get(0));
        Calls.run("the example of README.md", String.join("; ", calls));
    }

    /** The commands stand in .ci/run in their order, and no other one compiles or runs anything there. */
    private static void checkCommands(List<String> commands) {
        List<String> script = new ArrayList<>();
        for (String line : Page.read(".ci/run").text.split("\n")) {
            Matcher tried = TRY.matcher(line.strip());
            script.add(tried.matches() ? tried.group(1) : line.strip());
        }
        int from = 0;
        for (String command : commands) {
            int at = script.subList(from, script.size()).indexOf(command.strip());
            same(command.strip() + " stands in .ci/run, behind the one before", at >= 0, true);
            from += at + 1;
        }
        same("what .ci/run compiles and runs", javaOnly(script), javaOnly(commands));
        same("README.md names .ci/run itself", Page.readme().section("Tests").text.contains("\n    .ci/run\n"), true);
    }

    private static List<String> javaOnly(List<String> lines) {
        List<String> found = new ArrayList<>();
        for (String line : lines) {
            if (!line.startsWith("#") && JAVA.matcher(line).find()) {
                found.add(line.strip());
            }
        }
        return found;
    }

    /** The table of the tests has a row for each of them and for no other. */
    private static void checkNames(Page tests) {
        Set<String> due = new TreeSet<>();
        for (String name : new File("src/test/java").list()) {
            if (name.endsWith("Test.java")) {
                due.add(name.replace(".java", ""));
            }
        }
        Set<String> got = new TreeSet<>();
        Matcher rows = Pattern.compile("\n\\| `(\\w+)` \\|").matcher(tests.text);
        while (rows.find()) {
            got.add(rows.group(1));
        }
        same("the tests that README.md lists", got, due);
    }

    private static void same(String what, Object got, Object due) {
        Calls.equal(what + " (" + got + "; due is " + due + ")", got.equals(due) ? 1 : 0, 1);
    }
}
