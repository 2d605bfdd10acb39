import java.util.Random;

/**
 * All promises: runs of calls, likely and unlikely ones, on the class and on the model of it; every answer must be
 * the model's. No call may throw; a refused call must change nothing, or later answers differ.
 */
public final class ModelTest {
    private static final int RUNS = 400;
    private static final int[] ODD = {-1, -2, 2, 3, 4, 7, 8, 9, 11, 12, 16, 17, 59, 60, 61, 255, 256,
        Integer.MAX_VALUE, Integer.MIN_VALUE, Integer.MAX_VALUE - 1, Integer.MIN_VALUE + 1, 1 << 16, -128, 65535};

    private final Random random;
    private final BackHooks x = new BackHooks();
    private final Model m = new Model();
    private final String name;

    private ModelTest(int seed) {
        random = new Random(seed);
        name = "run " + seed + ": ";
    }

    public static void main(String[] args) {
        for (int seed = 0; seed < RUNS; seed++) {
            new ModelTest(seed).run();
        }
        Checks.end();
    }

    private void run() {
        boolean wellTold = random.nextInt(4) != 0;
        if (wellTold) {
            tell();
        }
        int calls = 60 + random.nextInt(150);
        for (int i = 0; i < calls; i++) {
            int pick = random.nextInt(100);
            if (pick < 12) {
                tellMore();
            } else if (pick < 30) {
                sheets();
            } else if (pick < 60) {
                evenings();
            } else if (pick < 97) {
                plansAndGuesses();
            } else if (pick < 98) {
                tell();
            }
        }
        Checks.due(name + "digest()", m.digest(), x.digest());
    }

    /** Mostly a number from 0 to most, now and then another. */
    private int about(int most) {
        return random.nextInt(25) == 0 ? ODD[random.nextInt(ODD.length)] : random.nextInt(most + 1);
    }

    private static String call(String method, int... numbers) {
        StringBuilder all = new StringBuilder(method).append('(');
        for (int i = 0; i < numbers.length; i++) {
            all.append(i == 0 ? "" : ", ").append(numbers[i]);
        }
        return all.append(')').toString();
    }

    private void due(String call, long want, long got) {
        Checks.due(name + call, want, got);
    }

    private void type(int text, int b) {
        due(call("type", text, b), m.type(text, b), x.type(text, b));
    }

    private void event(int kind, int evening, int number) {
        due(call("event", kind, evening, number), m.event(kind, evening, number), x.event(kind, evening, number));
    }

    /** Texts without a fault, and events, as a rule in the first evenings. */
    private void tell() {
        due("wipe(0)", m.wipe(0), x.wipe(0));
        due("wipe(1)", m.wipe(1), x.wipe(1));
        int hooks = random.nextInt(13);
        for (int k = 0; k < hooks; k++) {
            type(0, "hhsg".charAt(random.nextInt(4)));
        }
        int things = random.nextInt(9);
        for (int t = 0; t < things; t++) {
            if (t > 0) {
                type(1, ';');
            }
            type(1, "mwq".charAt(random.nextInt(3)));
            type(1, '1' + random.nextInt(9));
            type(1, '0' + random.nextInt(random.nextInt(3) == 0 ? 10 : Math.min(10, hooks + 1)));
        }
        int events = random.nextInt(6);
        for (int i = 0; i < events; i++) {
            event(random.nextInt(3), random.nextInt(random.nextBoolean() ? 4 : 12), random.nextInt(12));
        }
    }

    private void tellMore() {
        int a = about(1);
        int b = random.nextInt(3) == 0 ? about(255) : "hsgmwq0123456789;".charAt(random.nextInt(17));
        int kind = about(2);
        int evening = about(11);
        int number = about(11);
        switch (random.nextInt(10)) {
            case 0, 1 -> type(a, b);
            case 2, 3 -> due(call("undo", a), m.undo(a), x.undo(a));
            case 4, 5, 6 -> event(kind, evening, number);
            case 7, 8 -> due("back()", m.back(), x.back());
            default -> {
                if (random.nextInt(4) == 0) {
                    due(call("wipe", a), m.wipe(a), x.wipe(a));
                }
            }
        }
        due("fault(0)", m.fault(0), x.fault(0));
        due("fault(1)", m.fault(1), x.fault(1));
        due(call("fault", a), m.fault(a), x.fault(a));
    }

    private void evenings() {
        int e = about(11);
        int t = about(7);
        int k = about(11);
        int what = about(3);
        int two = about(1);
        switch (random.nextInt(12)) {
            case 0 -> due(call("hook", k), m.hook(k), x.hook(k));
            case 1 -> due(call("thing", t, what), m.thing(t, what), x.thing(t, what));
            case 2 -> due(call("heat", e, t, two), m.heat(e, t, two), x.heat(e, t, two));
            case 3 -> due(call("said", e, k), m.said(e, k), x.said(e, k));
            case 4 -> due(call("at", e, what), m.at(e, what), x.at(e, what));
            case 5 -> due(call("settled", t), m.settled(t), x.settled(t));
            case 6 -> due(call("sum", what), m.sum(what), x.sum(what));
            case 7 -> due("peace()", m.peace(), x.peace());
            case 8 -> due("longest()", m.longest(), x.longest());
            case 9 -> due(call("highest", t), m.highest(t), x.highest(t));
            case 10 -> due("sore()", m.sore(), x.sore());
            default -> {
                int c = about(8);
                due(call("count", c), m.count(c), x.count(c));
            }
        }
    }

    private void plansAndGuesses() {
        int e = about(11);
        int t = about(7);
        int two = about(1);
        switch (random.nextInt(12)) {
            case 0 -> {
                int what = about(3);
                due(call("swap", what), m.swap(what), x.swap(what));
            }
            case 1 -> due("fit()", m.fit(), x.fit());
            case 2 -> {
                int what = about(2);
                due(call("leave", e, what), m.leave(e, what), x.leave(e, what));
            }
            case 3 -> {
                int i = about(2) - 1;
                due(call("spare", i), m.spare(i), x.spare(i));
            }
            case 4, 5 -> look(e, t, two);
            case 6 -> {
                if (random.nextInt(3) == 0) {
                    due("forget()", m.forget(), x.forget());
                }
            }
            case 7 -> due("never()", m.never(), x.never());
            case 8 -> due(call("was", t, two), m.was(t, two), x.was(t, two));
            case 9 -> due(call("ask", t), m.ask(t), x.ask(t));
            case 10 -> {
                int c = about(16);
                due(call("chance", c, t, two), m.chance(c, t, two), x.chance(c, t, two));
            }
            default -> {
                int n = about(8);
                int seed = random.nextInt();
                due(call("seasons", seed, n, two), m.seasons(seed, n, two), x.seasons(seed, n, two));
            }
        }
    }

    /** As a rule what is seen is what is so, or hardly anything would ever come out. */
    private void look(int e, int t, int is) {
        int settled = m.settled(t);
        boolean truly = settled != -2 && random.nextInt(6) != 0;
        int so = truly ? (settled != -1 && settled <= e ? 1 : 0) : is;
        due(call("seen", e, t, so), m.seen(e, t, so), x.seen(e, t, so));
    }

    private void fillWithEvents(int s, int form) {
        int n = random.nextInt(14);
        due(call("sheet", s, form, n), m.sheet(s, form, n), x.sheet(s, form, n));
        for (int i = 0; i < n; i++) {
            int v = i % 3 == 0 ? about(2) : about(11);
            due(call("put", s, form, i, v), m.put(s, form, i, v), x.put(s, form, i, v));
        }
    }

    private void sheets() {
        int s = about(3);
        int t = about(3);
        int form = about(2);
        int i = about(14);
        int j = about(14);
        switch (random.nextInt(9)) {
            case 0 -> {
                int n = about(random.nextBoolean() ? 15 : 60);
                due(call("sheet", s, form, n), m.sheet(s, form, n), x.sheet(s, form, n));
            }
            case 1 -> {
                if (random.nextInt(3) == 0) {
                    due(call("lose", s), m.lose(s), x.lose(s));
                }
            }
            case 2, 3 -> {
                int v = random.nextBoolean() ? random.nextInt(12) : random.nextInt();
                due(call("put", s, form, i, v), m.put(s, form, i, v), x.put(s, form, i, v));
            }
            case 4 -> due(call("get", s, form, i), m.get(s, form, i), x.get(s, form, i));
            case 5, 6 -> {
                int n = about(8);
                due(call("copy", s, i, t, j, n), m.copy(s, i, t, j, n), x.copy(s, i, t, j, n));
            }
            case 7 -> {
                int e = about(11);
                due(call("write", e, s), m.write(e, s), x.write(e, s));
            }
            default -> {
                if (random.nextInt(3) == 0) {
                    fillWithEvents(s, form);
                }
                due(call("read", s), m.read(s), x.read(s));
            }
        }
        due("count(8)", m.count(8), x.count(8));
        due("count(4)", m.count(4), x.count(4));
    }
}
