import java.lang.reflect.InvocationTargetException;
import java.lang.reflect.Method;
import java.util.ArrayList;
import java.util.List;

/**
 * Runs of calls that are written down as "name(arguments) = answer; ..", each on an object of its
 * own. Two calls are not of the class: type(t, 'text') lays a text down byte by byte, and
 * spell(t, 'text') looks whether a text has these bytes (its length is what write() returned).
 */
final class Calls {
    private static int wrong = 0;
    private static int made = 0;

    private Calls() {
    }

    static void run(String title, String script) {
        MarkScripts object = new MarkScripts();
        for (String line : split(script)) {
            int sign = line.lastIndexOf(" = ");
            String call = sign < 0 ? line : line.substring(0, sign);
            made++;
            long got = answer(object, call);
            if (sign >= 0 && got != Long.parseLong(line.substring(sign + 3).trim())) {
                fail(title + ": " + line + ", but the answer was " + got);
            }
        }
    }

    static void fail(String what) {
        wrong++;
        if (wrong <= 40) {
            System.out.println(what);
        }
    }

    static void equal(String what, long got, long due) {
        made++;
        if (got != due) {
            fail(what + " is " + got + ", due is " + due);
        }
    }

    /** Ends the test, with exit code 1 if something was wrong. */
    static void end(String name) {
        System.out.println(name + ": " + made + " answers, " + wrong + " wrong");
        if (wrong > 0 || made == 0) {
            System.exit(1);
        }
    }

    static void type(MarkScripts object, int t, String text) {
        object.text(t, text.length());
        for (int i = 0; i < text.length(); i++) {
            object.put(t, i, text.charAt(i));
        }
    }

    static String spell(MarkScripts object, int t, int length) {
        StringBuilder text = new StringBuilder();
        for (int i = 0; i < length; i++) {
            int v = object.put(t, i, 0) - 1000;
            object.put(t, i, v);
            text.append((char) v);
        }
        return text.toString();
    }

    private static List<String> split(String script) {
        List<String> lines = new ArrayList<>();
        for (String line : script.replace('\n', ' ').split(";")) {
            if (!line.isBlank()) {
                lines.add(line.strip());
            }
        }
        return lines;
    }

    private static long answer(MarkScripts object, String call) {
        int open = call.indexOf('(');
        String name = call.substring(0, open).strip();
        String inside = call.substring(open + 1, call.lastIndexOf(')'));
        if (name.equals("type") || name.equals("spell")) {
            int t = Integer.parseInt(inside.substring(0, inside.indexOf(',')).strip());
            String text = inside.substring(inside.indexOf('\'') + 1, inside.lastIndexOf('\''));
            if (name.equals("type")) {
                type(object, t, text);
            } else if (!spell(object, t, text.length()).equals(text)) {
                fail(call + ", but it is " + spell(object, t, text.length()));
            }
            return 0;
        }
        return invoke(object, name, inside.isBlank() ? new String[0] : inside.split(","));
    }

    static long invoke(Object object, String name, String... arguments) {
        Object[] values = new Object[arguments.length];
        Class<?>[] types = new Class<?>[arguments.length];
        for (int i = 0; i < values.length; i++) {
            values[i] = Integer.parseInt(arguments[i].strip());
            types[i] = int.class;
        }
        try {
            Method method = object.getClass().getDeclaredMethod(name, types);
            return ((Number) method.invoke(object, values)).longValue();
        } catch (InvocationTargetException e) {
            throw new IllegalStateException(name + " threw " + e.getCause(), e);
        } catch (ReflectiveOperationException e) {
            throw new IllegalStateException("no such call: " + name, e);
        }
    }
}
