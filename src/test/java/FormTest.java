import java.lang.reflect.Constructor;
import java.lang.reflect.Field;
import java.lang.reflect.Method;
import java.lang.reflect.Modifier;
import java.nio.file.Files;
import java.nio.file.Path;
import java.util.ArrayList;
import java.util.Arrays;
import java.util.Collections;
import java.util.List;
import java.util.Set;
import java.util.TreeSet;
import java.util.regex.Matcher;
import java.util.regex.Pattern;

/** The document's public face, and the rules of LANGUAGE.md that can be read off the file. */
public final class FormTest {
    private static final Path FILE = Path.of("src/main/java/MarkScripts.java");
    private static final Pattern SIGNATURE = Pattern.compile(" {4}public ((?:int|long) \\w+\\(.*\\))(;| \\{)");
    private static final int METHODS = 35;
    private static final String WORDS = "throw|throws|try|catch|finally|synchronized|assert|import|package|volatile"
        + "|native|Object|System\\.(?!arraycopy)\\w+|var|Exception|Error|Random|Thread|Math\\.(?!min|max|abs)\\w+|\\w+Exact";

    public static void main(String[] args) throws Exception {
        checkMembers();
        checkConstants();
        String source = Files.readString(FILE);
        checkSignatures(source);
        checkWords(withoutComments(source));
        checkLengths(source);
        checkDepth(withoutComments(source));
        checkStaticFields();
        same("the file has signs up to 126 only", source.chars().allMatch(c -> c == '\n' || c >= 32 && c <= 126), true);
        Calls.end("FormTest");
    }

    private static List<String> face() {
        return signatures(Page.document().section("The public face").block("java"));
    }

    private static List<String> signatures(List<String> lines) {
        List<String> found = new ArrayList<>();
        for (String line : lines) {
            Matcher signature = SIGNATURE.matcher(line);
            if (signature.matches()) {
                found.add(signature.group(1));
            }
        }
        return found;
    }

    /** The file has the methods in the order and with the names of the document, as the promises have. */
    private static void checkSignatures(String source) {
        List<String> promised = new ArrayList<>();
        Matcher promises = Pattern.compile("\n## Promise \\d+: (\\w+)\n\n`(.*)`\n").matcher(Page.document().text);
        while (promises.find()) {
            promised.add(promises.group(2));
        }
        same("methods of the document's face", face().size(), METHODS);
        same("the signatures of the promises", promised, face());
        same("the methods in the file", signatures(List.of(source.split("\n"))), face());
    }

    private static void checkMembers() {
        Set<String> due = new TreeSet<>();
        for (String signature : face()) {
            due.add(signature.replaceAll("int \\w+([,)])", "int$1"));
        }
        Set<String> got = new TreeSet<>();
        Set<String> names = new TreeSet<>();
        for (Method method : MarkScripts.class.getDeclaredMethods()) {
            if (!Modifier.isPrivate(method.getModifiers())) {
                String types = Arrays.toString(method.getParameterTypes()).replace('[', '(').replace(']', ')');
                got.add(method.getReturnType() + " " + method.getName() + types);
                names.add(method.getName());
                same(method + " is", method.getModifiers(), Modifier.PUBLIC);
            }
        }
        same("the public methods", got, due);
        for (Method method : MarkScripts.class.getDeclaredMethods()) {
            if (Modifier.isPrivate(method.getModifiers())) {
                same(method.getName() + " is a public name", names.contains(method.getName()), false);
            }
        }
        checkClasses(names);
    }

    private static void checkClasses(Set<String> names) {
        Constructor<?>[] constructors = MarkScripts.class.getDeclaredConstructors();
        same("constructors", constructors.length, 1);
        same("the constructor takes", constructors[0].getParameterCount(), 0);
        same("the class", MarkScripts.class.getModifiers(), Modifier.PUBLIC | Modifier.FINAL);
        same("at most twelve classes", MarkScripts.class.getDeclaredClasses().length < 12, true);
        for (Class<?> inside : MarkScripts.class.getDeclaredClasses()) {
            same(inside + " is static", Modifier.isStatic(inside.getModifiers()), true);
            same(inside + " is public", Modifier.isPublic(inside.getModifiers()), false);
            same(inside + " has few fields", fieldsOf(inside) <= 20, true);
            for (Method method : inside.getDeclaredMethods()) {
                same(method + " has a public name", names.contains(method.getName()), false);
                same(method + " has few parameters", method.getParameterCount() <= 7, true);
            }
        }
        same("the class has few fields", fieldsOf(MarkScripts.class) <= 20, true);
    }

    private static long fieldsOf(Class<?> type) {
        return Arrays.stream(type.getDeclaredFields()).filter(f -> !Modifier.isStatic(f.getModifiers())).count();
    }

    private static void checkConstants() throws IllegalAccessException {
        List<String> got = new ArrayList<>();
        for (Field field : MarkScripts.class.getDeclaredFields()) {
            int modifiers = field.getModifiers();
            if (Modifier.isStatic(modifiers)) {
                same(field + " is final", Modifier.isFinal(modifiers), true);
            }
            if (!Modifier.isPrivate(modifiers)) {
                same(field + " is public", Modifier.isPublic(modifiers), true);
                got.add(field.getName() + " " + field.getInt(null));
            }
        }
        Collections.sort(got);
        same("the constants", got.toString(), "[BAD -1, FINDING -3, FULL -2, NONE -9, SPENT -6, STATE -4]");
    }

    private static void checkStaticFields() {
        Set<Class<?>> constants = Set.of(int.class, long.class, boolean.class, char.class, String.class);
        for (Class<?> inside : MarkScripts.class.getDeclaredClasses()) {
            for (Field field : inside.getDeclaredFields()) {
                if (Modifier.isStatic(field.getModifiers())) {
                    same(field + " is final", Modifier.isFinal(field.getModifiers()), true);
                    same(field + " is a constant", constants.contains(field.getType()), true);
                }
            }
        }
    }

    private static String withoutComments(String source) {
        return source.replaceAll("(?s)/\\*.*?\\*/", " ").replaceAll("//[^\n]*", " ");
    }

    private static void checkWords(String code) {
        Matcher words = Pattern.compile("\\b(" + WORDS + ")\\b|->|::|@").matcher(code);
        while (words.find()) {
            Calls.fail("the file uses " + words.group());
        }
        same("only these words are refused", code.contains("public final class MarkScripts"), true);
    }

    /** A method begins at a line that ends with an open brace behind parentheses, one level in. */
    private static void checkLengths(String source) {
        String[] lines = source.split("\n");
        int start = -1;
        String indent = "";
        for (int i = 0; i < lines.length; i++) {
            if (lines[i].matches("( {4}| {8})[a-zA-Z].*\\) \\{") && !lines[i].matches(" +(for|if|while|switch|else) .*")) {
                start = i;
                indent = lines[i].replaceAll("\\S.*", "");
            } else if (start >= 0 && lines[i].equals(indent + "}")) {
                same("line " + (start + 1) + " begins a short method", i - start <= 60, true);
                start = -1;
            }
        }
    }

    /** The class has no recursion, so all its calls count. */
    private static void checkDepth(String code) {
        CallDepth depth = new CallDepth(code);
        same("the methods that were found are many", depth.methods() > 2 * METHODS, true);
        same("calls go at most eight deep", depth.greatest() > 1 && depth.greatest() <= 8, true);
    }

    private static void same(String what, Object got, Object due) {
        Calls.equal(what + " (" + got + ")", got.equals(due) ? 1 : 0, 1);
    }
}
