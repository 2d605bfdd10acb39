/** What the tests share: a count of wrong answers, and short ways to tell an object things. */
final class Checks {
    static final int NULL = -11, INDEX = -12, CAST = -13, STORE = -14, SIZE = -15;
    static final int MAID = 0, FRONT = 1, LEFT = 2;

    private static int wrong = 0;
    private static int made = 0;

    private Checks() {
    }

    static void due(String call, long want, long got) {
        made++;
        if (want != got) {
            wrong++;
            System.out.println(call + " answered " + got + ", due is " + want);
        }
    }

    static void due(String call, String want, String got) {
        made++;
        if (!want.equals(got)) {
            wrong++;
            System.out.println(call + " answered " + got + ", due is " + want);
        }
    }

    /** Ends the test: exit code 1 if an answer was wrong, or if none was asked for. */
    static void end() {
        System.out.println(made + " answers, " + wrong + " of them wrong");
        if (wrong != 0 || made == 0) {
            System.exit(1);
        }
    }

    static void type(BackHooks x, int text, String bytes) {
        for (int i = 0; i < bytes.length(); i++) {
            x.type(text, bytes.charAt(i));
        }
    }

    static void retype(BackHooks x, int text, String bytes) {
        x.wipe(text);
        type(x, text, bytes);
    }

    /** A new object with hooks, things and events, three numbers for each event. */
    static BackHooks told(String hooks, String things, int... events) {
        BackHooks x = new BackHooks();
        type(x, 0, hooks);
        type(x, 1, things);
        for (int i = 0; i + 2 < events.length; i += 3) {
            x.event(events[i], events[i + 1], events[i + 2]);
        }
        return x;
    }

    static void fill(BackHooks x, int s, int form, int... items) {
        x.sheet(s, form, items.length);
        for (int i = 0; i < items.length; i++) {
            x.put(s, form, i, items[i]);
        }
    }

    /** count() 0 to 7 and digest(): two objects alike in what is told answer alike. */
    static String stateOf(BackHooks x) {
        StringBuilder all = new StringBuilder();
        for (int what = 0; what < 8; what++) {
            all.append(x.count(what)).append(' ');
        }
        return all.append(x.digest()).toString();
    }
}
