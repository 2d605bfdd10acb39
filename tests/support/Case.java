import java.util.ArrayList;
import java.util.Arrays;
import java.util.List;

/**
 * A sentence of the document on a new object. Every answer is told by the test, and must be that of the class and
 * that of the model.
 */
final class Case {
    private static final int CALLS = 512;
    private static final int ROOM_FOR_A_FOLD = 150;

    private final String name;
    private final BackHooks x = new BackHooks();
    private final Model m = new Model();
    private final List<Call> calls = new ArrayList<>();
    /** What was seen of an object that had so many of the calls: it is dear, so it is kept. */
    private String probed = "";
    private int probedAt = -1;

    private Case(String name) {
        this.name = name;
    }

    static Case of(int promise, String sentence) {
        Document.quote(promise, sentence);
        return new Case(promise + ", '" + sentence + "': ");
    }

    static long[] row(long... answers) {
        return answers;
    }

    Case due(long want, String method, int... numbers) {
        Call call = new Call(method, numbers);
        Checks.due(name + call + " by the model", want, call.on(m));
        Checks.due(name + call, want, call.on(x));
        calls.add(call);
        Checks.due(name + "no more than 512 calls", 1, calls.size() <= CALLS ? 1 : 0);
        return this;
    }

    /** The answers for a last number of 0 on. */
    Case each(long[] wants, String method, int... head) {
        int[] numbers = Arrays.copyOf(head, head.length + 1);
        for (int i = 0; i < wants.length; i++) {
            numbers[head.length] = i;
            due(wants[i], method, numbers.clone());
        }
        return this;
    }

    Case type(int text, String bytes) {
        int before = m.count(2 + text);
        for (int i = 0; i < bytes.length(); i++) {
            due(before + i + 1, "type", text, bytes.charAt(i));
        }
        return this;
    }

    Case hooks(String bytes) {
        return type(0, bytes);
    }

    Case things(String bytes) {
        return type(1, bytes);
    }

    /** Events, three numbers for each. */
    Case events(int... numbers) {
        int before = m.count(4);
        for (int i = 0; i + 2 < numbers.length; i += 3) {
            due(before + i / 3 + 1, "event", numbers[i], numbers[i + 1], numbers[i + 2]);
        }
        return this;
    }

    Case sheet(int s, int form, int... items) {
        due(items.length, "sheet", s, form, items.length);
        for (int i = 0; i < items.length; i++) {
            due(1, "put", s, form, i, items[i]);
        }
        return this;
    }

    Case items(int s, int form, long... wants) {
        return each(wants, "get", s, form);
    }

    /** A call that changes nothing at all: a question, or a refusal that is no finding. */
    Case still(long want, String method, int... numbers) {
        return changesFindingTo(m.count(8), want, method, numbers);
    }

    /** Just below the least and just above the most that a number may be, and the least and the greatest int. */
    Case outside(int place, int least, int most, long want, String method, int... numbers) {
        int[] outside = {least - 1, most + 1, Integer.MIN_VALUE, Integer.MAX_VALUE};
        for (int v : outside) {
            int[] all = numbers.clone();
            all[place] = v;
            still(want, method, all);
        }
        return this;
    }

    /** A finding: it changes nothing but count(8). */
    Case found(int finding, String method, int... numbers) {
        return changesFindingTo(finding, -10 - finding, method, numbers);
    }

    /** A finding of get(), which answers the least int. */
    Case foundByGet(int finding, int... numbers) {
        return changesFindingTo(finding, Integer.MIN_VALUE, "get", numbers);
    }

    private Case changesFindingTo(int finding, long want, String method, int... numbers) {
        String before = probe();
        due(want, method, numbers);
        due(finding, "count", 8);
        Checks.due(name + new Call(method, numbers) + " changes nothing", before, probe());
        return this;
    }

    private String probe() {
        if (probedAt != calls.size()) {
            probed = Probe.of(calls);
            probedAt = calls.size();
        }
        return probed;
    }

    /** The digest behind all this: the model's, and the one of the other calls' answers. */
    Case digest() {
        due(m.digest(), "digest");
        if (calls.size() <= ROOM_FOR_A_FOLD) {
            Checks.due(name + "digest() from the other calls", Fold.of(Call.again(calls)), x.digest());
        }
        return this;
    }

    /** All that can be seen, but count(8), is as it is behind the calls of another. */
    Case isLike(Case other) {
        Checks.due(name + "is like " + other.name, other.probe(), probe());
        return digest();
    }
}
