import java.util.ArrayList;
import java.util.List;

/**
 * All promises: every call with every choice of numbers from the bounds that the document names, one below, one above,
 * and the ends of int, on objects that hold nothing, a little and as much as may be. Every answer must be the model's,
 * and no call may throw.
 */
public final class GridTest {
    private static final int LEAST = Integer.MIN_VALUE, MOST = Integer.MAX_VALUE;
    private static final int[] ENDS = {LEAST, LEAST + 1, -2, -1, 0, 1, 2, 3, 4, 7, 8, 9, 10, 11, 12, 13, 15, 16, 17, 59, 60, 61,
        255, 256, MOST - 1, MOST};
    /** For the calls of three numbers and more: the ends of evenings, things, sheets, forms, kinds. */
    private static final int[] FEW = {LEAST, -1, 0, 1, 2, 3, 4, 7, 8, 11, 12, MOST};
    /** The numbers of copy(): sheets and places in them. */
    private static final int[] PLACES = {-1, 0, 1, 3, 4, MOST};
    /** The calls that change nothing, and how many numbers each takes. */
    private static final String[] ASKING = {"fault/1", "hook/1", "thing/2", "heat/3", "said/2", "at/2", "settled/1", "sum/1",
        "peace/0", "longest/0", "highest/1", "sore/0", "swap/1", "fit/0", "leave/2", "spare/1", "never/0", "was/2", "ask/1",
        "count/1", "digest/0"};
    /** Those that change what is told, what was seen or a sheet. */
    private static final String[] TELLING = {"type/2", "wipe/1", "undo/1", "event/3", "back/0", "read/1", "seen/3", "forget/0",
        "sheet/3", "lose/1", "write/2", "get/3"};
    /** An object has 512 calls; those that tell it something are some of them. */
    private static final int CALLS = 300;

    public static void main(String[] args) {
        List<List<Call>> states = List.of(nothing(), little(), most(), faulty());
        for (List<Call> state : states) {
            for (String ask : ASKING) {
                run(state, calls(ask, ask.endsWith("3") ? FEW : ENDS));
            }
            for (String tell : TELLING) {
                run(state, calls(tell, tell.endsWith("3") ? FEW : ENDS));
            }
            run(state, calls("chance/3", new int[] {LEAST, -1, 0, 1, 2, 7, 8, 16, 17, MOST}));
            run(state, calls("seasons/3", new int[] {LEAST, -1, 0, 1, 2, 7, 8, 9, MOST}));
            run(state, calls("put/4", new int[] {LEAST, -1, 0, 2, 3, 4, 59, 60, MOST}));
            run(state, calls("copy/5", PLACES));
        }
        Checks.end();
    }

    // ---- what an object holds

    private static List<Call> nothing() {
        return new ArrayList<>();
    }

    private static List<Call> told(String hooks, String things) {
        List<Call> calls = new ArrayList<>();
        hooks.chars().forEach(b -> calls.add(new Call("type", 0, b)));
        things.chars().forEach(b -> calls.add(new Call("type", 1, b)));
        return calls;
    }

    private static List<Call> little() {
        List<Call> calls = told("hs", "m31;q20");
        calls.add(new Call("event", 2, 0, 1));
        calls.add(new Call("seen", 1, 0, 1));
        calls.add(new Call("sheet", 1, 1, 4));
        calls.add(new Call("sheet", 3, 1, 3));
        calls.add(new Call("put", 1, 1, 1, 5));
        return calls;
    }

    private static List<Call> most() {
        List<Call> calls = told("hsghsghsghsg", "m39;w43;q97;m52;w25;q44;w39;m80");
        for (int i = 0; i < 8; i++) {
            calls.add(new Call("event", i % 3, 11 - i, i));
            calls.add(new Call("seen", 11, i, i == 7 ? 0 : 1));
        }
        for (int s = 0; s < 4; s++) {
            calls.add(new Call("sheet", s, s % 3, 60));
        }
        return calls;
    }

    private static List<Call> faulty() {
        List<Call> calls = told("hhx", "m10;");
        calls.add(new Call("event", 0, 11, 11));
        calls.add(new Call("sheet", 0, 2, 0));
        calls.add(new Call("sheet", 1, 0, 1));
        return calls;
    }

    // ---- every choice of numbers

    private static List<Call> calls(String head, int[] from) {
        String method = head.substring(0, head.indexOf('/'));
        int n = Integer.parseInt(head.substring(head.indexOf('/') + 1));
        List<Call> all = new ArrayList<>();
        int choices = (int) Math.pow(from.length, n);
        for (int choice = 0; choice < choices; choice++) {
            int[] numbers = new int[n];
            int rest = choice;
            for (int i = 0; i < n; i++) {
                numbers[i] = from[rest % from.length];
                rest /= from.length;
            }
            all.add(new Call(method, numbers));
        }
        return all;
    }

    /** New objects are made as each has had its calls; the digest tells what the calls left behind. */
    private static void run(List<Call> state, List<Call> calls) {
        for (int start = 0; start < calls.size(); start += CALLS) {
            BackHooks x = Call.again(state);
            Model m = new Model();
            state.forEach(call -> call.on(m));
            for (Call call : calls.subList(start, Math.min(calls.size(), start + CALLS))) {
                Checks.due(call + " behind " + state.size() + " calls", call.on(m), call.on(x));
            }
            Checks.due("count(8) behind " + calls.get(start), m.count(8), x.count(8));
            Checks.due("digest() behind " + calls.get(start), m.digest(), x.digest());
        }
    }
}
