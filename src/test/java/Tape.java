import java.lang.reflect.InvocationTargetException;
import java.lang.reflect.Method;
import java.util.ArrayList;
import java.util.HashMap;
import java.util.List;
import java.util.Map;

/**
 * An object and all calls that were made on it. The same calls can be made again on a new object,
 * so what only destroying calls show (what undo() and on() bring back) is looked at beside the run.
 */
final class Tape {
    /** The document promises nothing behind so many calls. */
    static final int MOST_CALLS = 512;
    private static final int PLACES = 3;
    private static final Map<String, Method> METHODS = new HashMap<>();

    private final MarkScripts object = new MarkScripts();
    private final List<String> names = new ArrayList<>();
    private final List<int[]> arguments = new ArrayList<>();

    long call(String name, int... values) {
        names.add(name);
        arguments.add(values);
        if (names.size() > MOST_CALLS) {
            throw new IllegalStateException("more calls than the document speaks of: " + names.size());
        }
        return invoke(object, name, values);
    }

    /** A new object with the same calls behind it. */
    Tape again() {
        Tape other = new Tape();
        for (int c = 0; c < names.size(); c++) {
            other.call(names.get(c), arguments.get(c));
        }
        return other;
    }

    /**
     * All that can be seen but asked(), finding() and findings(): the state, each state before a
     * recorded change, and the same of each saved state.
     */
    List<Long> story() {
        List<Long> story = new ArrayList<>();
        for (int place = -1; place < PLACES; place++) {
            Tape other = again();
            story.add(other.call("digest"));
            if (place >= 0) {
                story.add(other.call("on", place));
                story.add(other.call("digest"));
            }
            for (int n = (int) other.call("count", 10) - 1; n >= 0; n--) {
                story.add(other.call("undo", n));
                story.add(other.call("digest"));
            }
        }
        return story;
    }

    /** What asked(), finding() and findings() for 1 to 5 return, without a call on this object. */
    long[] told() {
        Tape other = again();
        long[] told = new long[7];
        told[0] = other.call("asked");
        told[1] = other.call("finding");
        for (int f = 1; f <= 5; f++) {
            told[f + 1] = other.call("findings", f);
        }
        return told;
    }

    void type(int t, String text) {
        call("text", t, text.length());
        for (int i = 0; i < text.length(); i++) {
            call("put", t, i, text.charAt(i));
        }
    }

    /** The bytes of a text, all that there are, without a call on this object. */
    String spell(int t) {
        Tape other = again();
        StringBuilder text = new StringBuilder();
        for (int i = 0; i <= 60; i++) {
            long v = other.call("put", t, i, 0);
            if (v < 0) {
                break;
            }
            text.append((char) (v - 1000 & 255));
        }
        return text.toString();
    }

    static long invoke(Object object, String name, int... values) {
        try {
            Object[] boxed = new Object[values.length];
            for (int i = 0; i < values.length; i++) {
                boxed[i] = values[i];
            }
            return ((Number) method(object.getClass(), name, values.length).invoke(object, boxed)).longValue();
        } catch (InvocationTargetException e) {
            throw new IllegalStateException(name + " threw " + e.getCause(), e);
        } catch (ReflectiveOperationException e) {
            throw new IllegalStateException("no such call: " + name, e);
        }
    }

    private static Method method(Class<?> type, String name, int count) throws NoSuchMethodException {
        String key = type.getName() + " " + name + " " + count;
        Method method = METHODS.get(key);
        if (method == null) {
            Class<?>[] types = new Class<?>[count];
            java.util.Arrays.fill(types, int.class);
            method = type.getDeclaredMethod(name, types);
            METHODS.put(key, method);
        }
        return method;
    }
}
