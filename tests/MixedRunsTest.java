import java.util.ArrayDeque;
import java.util.ArrayList;
import java.util.Deque;
import java.util.List;
import java.util.Map;
import java.util.Random;
import java.util.TreeMap;

/**
 * All promises: runs of as many calls as an object has, in which texts, events, what was seen and sheets are changed
 * step by step with questions between the steps. Every answer must be the model's; each digest must also be that of
 * a twin, a new object that was told at once what stands. In the end every kind of answer that the document names
 * must have come, so that the runs are known to have been where they should.
 */
public final class MixedRunsTest {
    private static final int RUNS = 120;
    private static final int CALLS = 512;
    private static final int OFTEN = 5;
    private static final int NONE = -1, BAD = -2, NOT = -3, FULL = -4;

    private static final String[] QUESTIONS = {"fault/1", "hook/1", "thing/2", "heat/3", "said/2", "at/2", "settled/1",
        "sum/1", "peace/0", "longest/0", "highest/1", "sore/0", "swap/1", "fit/0", "leave/2", "spare/1", "never/0",
        "was/2", "ask/1", "chance/3", "seasons/3", "get/3", "count/1"};
    private static final String[] ACTS = {"type/2", "wipe/1", "undo/1", "event/3", "back/0", "read/1", "seen/3",
        "forget/0", "sheet/3", "lose/1", "put/4", "copy/5", "write/2"};
    /** How many there are of what each number of a call tells; 0: any int will do. */
    private static final Map<String, int[]> NUMBERS = Map.ofEntries(Map.entry("type", new int[] {2, 256}),
        Map.entry("wipe", new int[] {2}), Map.entry("undo", new int[] {2}), Map.entry("fault", new int[] {2}),
        Map.entry("hook", new int[] {12}), Map.entry("thing", new int[] {8, 3}),
        Map.entry("event", new int[] {3, 12, 12}), Map.entry("read", new int[] {4}),
        Map.entry("heat", new int[] {12, 8, 2}), Map.entry("said", new int[] {12, 12}),
        Map.entry("at", new int[] {12, 4}), Map.entry("settled", new int[] {8}), Map.entry("sum", new int[] {4}),
        Map.entry("highest", new int[] {8}), Map.entry("swap", new int[] {4}), Map.entry("leave", new int[] {12, 3}),
        Map.entry("spare", new int[] {2}), Map.entry("seen", new int[] {12, 8, 2}), Map.entry("was", new int[] {8, 2}),
        Map.entry("ask", new int[] {8}), Map.entry("chance", new int[] {17, 8, 2}),
        Map.entry("seasons", new int[] {0, 9, 2}), Map.entry("sheet", new int[] {4, 3, 61}),
        Map.entry("lose", new int[] {4}), Map.entry("put", new int[] {4, 3, 60, 0}),
        Map.entry("get", new int[] {4, 3, 60}), Map.entry("copy", new int[] {4, 60, 4, 60, 60}),
        Map.entry("write", new int[] {12, 4}), Map.entry("count", new int[] {9}));
    private static final int[] ODD = {-1, -2, Integer.MIN_VALUE, Integer.MAX_VALUE};

    /** How often a call's answer was of a kind, by "method kind". */
    private static final Map<String, Integer> CAME = new TreeMap<>();

    private final Random random;
    private final BackHooks x = new BackHooks();
    private final Model m = new Model();
    private final Deque<Call> planned = new ArrayDeque<>();
    private final String name;
    private int made = 0;

    private MixedRunsTest(int seed) {
        random = new Random(31L * seed + 7);
        name = "mixed run " + seed + ", call ";
    }

    public static void main(String[] args) {
        for (int seed = 0; seed < RUNS; seed++) {
            new MixedRunsTest(seed).run();
        }
        allKindsCame();
        Checks.end();
    }

    private void run() {
        planHooks();
        planThings();
        while (made < CALLS - 1) {
            if (random.nextInt(5) < 2) {
                make(question());
            } else {
                if (planned.isEmpty()) {
                    plan();
                }
                make(planned.remove());
            }
            if (made % 170 == 100) {
                digest();
            }
        }
        digest();
    }

    private long make(Call call) {
        long want = call.on(m);
        made++;
        Checks.due(name + made + ": " + call, want, call.on(x));
        CAME.merge(call.method() + " " + kindOf(call.method(), want), 1, Integer::sum);
        return want;
    }

    private void digest() {
        long want = make(new Call("digest"));
        Checks.due(name + made + ": digest() of a twin", want, Call.again(m.retold()).digest());
    }

    // ---- questions, and numbers for them

    private Call question() {
        return callOf(QUESTIONS[random.nextInt(QUESTIONS.length)]);
    }

    private Call callOf(String head) {
        String method = head.substring(0, head.indexOf('/'));
        int[] numbers = new int[head.charAt(head.length() - 1) - '0'];
        for (int i = 0; i < numbers.length; i++) {
            numbers[i] = number(NUMBERS.get(method)[i]);
        }
        if (method.equals("spare")) {
            numbers[0] -= random.nextInt(2);
        }
        return new Call(method, numbers);
    }

    /** As often as not with one number far out. */
    private Call spoiled(Call call) {
        int[] numbers = call.numbers().clone();
        if (numbers.length > 0 && random.nextBoolean()) {
            numbers[random.nextInt(numbers.length)] = ODD[random.nextInt(ODD.length)];
        }
        return new Call(call.method(), numbers);
    }

    /** Mostly one that may be, now and then one just above or far out. */
    private int number(int many) {
        if (many == 0) {
            return random.nextInt();
        }
        int pick = random.nextInt(40);
        if (pick == 0) {
            return ODD[random.nextInt(ODD.length)];
        }
        return pick == 1 ? many : random.nextInt(random.nextBoolean() ? many : Math.min(many, 5));
    }

    // ---- acts, a few calls each, that are made with questions between them

    private void plan() {
        int text = random.nextInt(2);
        if (m.fault(text) >= 0 && random.nextInt(10) < 7) {
            plan("undo", text);
            return;
        }
        switch (random.nextInt(20)) {
            case 0 -> planHooks();
            case 1 -> planThings();
            case 2, 3 -> planOtherEnd(text);
            case 4 -> plan("type", text, number(256));
            case 5, 6, 7 -> planEvents(1 + random.nextInt(3));
            case 8 -> planEvents(9);
            case 9, 10 -> planTimes(1 + random.nextInt(random.nextInt(4) == 0 ? 9 : 3), new Call("back"));
            case 11, 12 -> planReading();
            case 13, 14 -> planSights(1 + random.nextInt(random.nextInt(4) == 0 ? 9 : 3));
            case 15 -> plan("forget");
            case 16, 17, 18 -> planSheets();
            default -> planned.add(spoiled(callOf(ACTS[random.nextInt(ACTS.length)])));
        }
    }

    private void plan(String method, int... numbers) {
        planned.add(new Call(method, numbers));
    }

    private void planTimes(int times, Call call) {
        for (int i = 0; i < times; i++) {
            planned.add(call);
        }
    }

    private void planHooks() {
        plan("wipe", 0);
        int hooks = random.nextInt(8) == 0 ? 13 : random.nextInt(13);
        for (int k = 0; k < hooks; k++) {
            plan("type", 0, "hhsg".charAt(random.nextInt(4)));
        }
    }

    private void planThings() {
        plan("wipe", 1);
        int things = random.nextInt(8) == 0 ? 9 : random.nextInt(8);
        for (int t = 0; t < things; t++) {
            planThing(t > 0);
        }
    }

    private void planThing(boolean behindAnother) {
        if (behindAnother) {
            plan("type", 1, ';');
        }
        plan("type", 1, "mwq".charAt(random.nextInt(3)));
        plan("type", 1, '1' + random.nextInt(random.nextBoolean() ? 4 : 9));
        plan("type", 1, '0' + random.nextInt(10));
    }

    /** The end of a text is undone and told otherwise; between the steps it may be at fault. */
    private void planOtherEnd(int text) {
        if (text == 0) {
            int last = 1 + random.nextInt(2);
            planTimes(last, new Call("undo", 0));
            for (int k = 0; k < last; k++) {
                plan("type", 0, "hsg".charAt(random.nextInt(3)));
            }
        } else {
            boolean alone = m.count(3) <= 3;
            planTimes(alone ? 3 : 4, new Call("undo", 1));
            planThing(!alone);
        }
    }

    private void planEvents(int many) {
        for (int i = 0; i < many; i++) {
            plan("event", random.nextInt(3), random.nextInt(random.nextBoolean() ? 3 : 12), number(12));
        }
    }

    private void planReading() {
        int s = random.nextInt(4);
        int form = random.nextInt(3);
        int n = random.nextInt(12);
        plan("sheet", s, form, n);
        for (int i = 0; i < n; i++) {
            plan("put", s, form, i, i % 3 == 0 ? number(3) : number(12));
        }
        plan("read", s);
        if (random.nextInt(3) == 0) {
            plan("read", s);
        }
    }

    /** Mostly what is so, or hardly anything would come out. */
    private void planSights(int many) {
        for (int i = 0; i < many; i++) {
            int evening = random.nextInt(12);
            int thing = random.nextInt(Math.max(1, m.count(1)));
            int settled = m.settled(thing);
            int so = settled >= 0 && settled <= evening ? 1 : 0;
            plan("seen", evening, thing, random.nextInt(5) == 0 ? 1 - so : so);
        }
    }

    private void planSheets() {
        int s = random.nextInt(4);
        int t = random.nextInt(4);
        int form = random.nextInt(3);
        int n = random.nextInt(10);
        switch (random.nextInt(6)) {
            case 0 -> plan("sheet", s, form, random.nextInt(5) == 0 ? -1 - random.nextInt(9) : random.nextInt(61));
            case 1 -> plan("lose", s);
            case 2 -> {
                plan("put", s, form, random.nextInt(14), random.nextInt());
                plan("copy", s, random.nextInt(4), s, random.nextInt(8), n);
            }
            case 3 -> {
                plan("sheet", t, form, 2 * n);
                plan("write", random.nextInt(12), t);
                plan("copy", t, 0, t, n / 2, n);
                plan("copy", t, n / 2, s, 0, n);
            }
            case 4 -> plan("copy", number(4), random.nextInt(9), number(4), random.nextInt(9), random.nextInt(9));
            default -> plan("write", random.nextInt(12), s);
        }
        for (int i = 0; i < 4; i++) {
            plan("get", random.nextBoolean() ? s : t, form, i);
        }
    }

    // ---- what kinds of answers came

    private static String kindOf(String method, long answer) {
        if (method.equals("digest")) {
            return "told";
        }
        if (method.equals("get")) {
            return answer == Integer.MIN_VALUE ? "least" : "told";
        }
        if (method.equals("chance") && answer < 0) {
            return answer - Long.MIN_VALUE == -BAD ? "BAD" : "other";
        }
        if (answer >= 0) {
            return "told";
        }
        return switch ((int) answer) {
            case NONE -> "NONE";
            case BAD -> "BAD";
            case NOT -> "NOT";
            case FULL -> "FULL";
            case Checks.NULL -> "NULL";
            case Checks.INDEX -> "INDEX";
            case Checks.CAST -> "CAST";
            case Checks.STORE -> "STORE";
            case Checks.SIZE -> "SIZE";
            default -> "other";
        };
    }

    private static void allKindsCame() {
        List<String> due = new ArrayList<>();
        for (String head : QUESTIONS) {
            due.add(head.substring(0, head.indexOf('/')) + " told");
        }
        for (String head : ACTS) {
            due.add(head.substring(0, head.indexOf('/')) + " told");
        }
        due.add("digest told");
        due.addAll(List.of("type BAD", "type FULL", "wipe BAD", "undo BAD", "undo NOT", "fault NONE", "fault BAD",
            "hook BAD", "thing BAD", "event BAD", "event FULL", "back NOT", "read BAD", "read NULL", "heat BAD",
            "said NONE", "said BAD", "at BAD", "settled NONE", "settled BAD", "sum BAD", "peace NONE", "longest NONE",
            "highest NONE", "highest BAD", "swap NONE", "swap BAD", "fit NONE", "leave NONE", "leave BAD", "spare NONE",
            "spare BAD", "seen BAD", "seen FULL", "was BAD", "ask BAD", "chance BAD", "seasons BAD", "sheet BAD",
            "sheet SIZE", "lose BAD", "lose NULL", "put BAD", "put NULL", "put CAST", "put INDEX", "get least",
            "copy BAD", "copy NULL", "copy STORE", "copy INDEX", "write BAD", "write NULL", "count BAD"));
        for (String kind : due) {
            int came = CAME.getOrDefault(kind, 0);
            Checks.due(kind + " came (" + came + " times) often", 1, came >= OFTEN ? 1 : 0);
            CAME.remove(kind);
        }
        Checks.due("no other kinds came", "{}", CAME.toString());
    }
}
