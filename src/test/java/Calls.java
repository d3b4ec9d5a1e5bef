/** What the tests share: they count what they look at, and say what was wrong. */
final class Calls {
    private static int wrong = 0;
    private static int made = 0;

    private Calls() {
    }

    static void count() {
        made++;
    }

    static void fail(String what) {
        wrong++;
        if (wrong <= 40) {
            System.out.println(what);
        }
    }

    static void equal(String what, long got, long due) {
        made++;
        if (got != due) {
            fail(what + " is " + got + ", due is " + due);
        }
    }

    /** Ends the test, with exit code 1 if something was wrong. */
    static void end(String name) {
        System.out.println(name + ": " + made + " answers, " + wrong + " wrong");
        if (wrong > 0 || made == 0) {
            System.exit(1);
        }
    }

    static void run(String title, String script) {
        Script.run(title, script);
    }

    static void type(MarkScripts object, int t, String text) {
        object.text(t, text.length());
        for (int i = 0; i < text.length(); i++) {
            object.put(t, i, text.charAt(i));
        }
    }

    static String spell(MarkScripts object, int t, int length) {
        StringBuilder text = new StringBuilder();
        for (int i = 0; i < length; i++) {
            int v = object.put(t, i, 0) - 1000;
            object.put(t, i, v);
            text.append((char) v);
        }
        return text.toString();
    }
}
