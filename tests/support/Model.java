import java.math.BigInteger;
import java.util.ArrayList;
import java.util.Arrays;
import java.util.HashMap;
import java.util.List;
import java.util.Map;
import java.util.TreeSet;
import java.util.regex.Matcher;
import java.util.regex.Pattern;

/**
 * The document once more, another way and without a care for speed: every "what if" is told anew as texts and a
 * list of events. ModelTest holds the class against it.
 */
final class Model {
    private static final int NONE = -1, BAD = -2, NOT = -3, FULL = -4;
    private static final int LEAST = Integer.MIN_VALUE;

    private final StringBuilder[] texts = {new StringBuilder(), new StringBuilder()};
    private final List<int[]> events = new ArrayList<>();
    private final List<int[]> sights = new ArrayList<>();
    /** byte[], short[], int[] or null. */
    private final Object[] sheets = new Object[4];
    private int finding = 0;

    /** What came of twelve evenings. */
    private static final class Outcome {
        final int[][] heat = new int[12][];
        final int[][] times = new int[12][];
        final int[][] said = new int[12][];
        final int[][] at = new int[12][4];
        int[] settled;
        int[] highest;

        int settledCount() {
            return (int) Arrays.stream(settled).filter(e -> e != NONE).count();
        }

        int total(int what) {
            return Arrays.stream(at).mapToInt(row -> row[what]).sum();
        }

        boolean all() {
            return settledCount() == settled.length;
        }

        TreeSet<Integer> behind(int evening) {
            TreeSet<Integer> set = new TreeSet<>();
            for (int t = 0; t < settled.length; t++) {
                if (settled[t] != NONE && settled[t] <= evening) {
                    set.add(t);
                }
            }
            return set;
        }
    }

    // ---- the evenings

    private static Outcome live(String hooks, String things, List<int[]> events) {
        String[] told = things.isEmpty() ? new String[0] : things.split(";");
        int n = told.length;
        int[] heat = new int[n];
        Outcome o = new Outcome();
        o.settled = new int[n];
        o.highest = new int[n];
        Arrays.fill(o.settled, NONE);
        Arrays.fill(o.highest, NONE);
        for (int t = 0; t < n; t++) {
            heat[t] = told[t].charAt(1) - '0';
        }
        for (int e = 0; e < 12; e++) {
            o.times[e] = new int[n];
            o.said[e] = new int[hooks.length()];
            Arrays.fill(o.said[e], NONE);
            boolean silent = has(events, 0, e, NONE) || has(events, 1, e, NONE);
            if (silent) {
                if (has(events, 1, e, NONE)) {
                    hotter(heat);
                }
            } else {
                evening(hooks, told, heat, minutesOf(hooks, events, e), e, o);
            }
            o.heat[e] = heat.clone();
            hotter(heat);
        }
        return o;
    }

    private static boolean has(List<int[]> events, int kind, int evening, int number) {
        for (int[] v : events) {
            if (v[0] == kind && v[1] == evening && (number == NONE || v[2] == number)) {
                return true;
            }
        }
        return false;
    }

    private static void hotter(int[] heat) {
        for (int t = 0; t < heat.length; t++) {
            if (heat[t] > 0) {
                heat[t] = Math.min(9, heat[t] + 1);
            }
        }
    }

    /** The hook of each minute, in turn. */
    private static List<Integer> minutesOf(String hooks, List<int[]> events, int e) {
        List<Integer> row = new ArrayList<>();
        List<Integer> later = new ArrayList<>();
        for (int k = 0; k < hooks.length(); k++) {
            int takes = "ghs".indexOf(hooks.charAt(k));
            boolean left = has(events, 2, e, k);
            for (int m = 0; m < takes + (left ? 1 : 0); m++) {
                (left ? later : row).add(k);
            }
        }
        row.addAll(later);
        return row;
    }

    private static void evening(String hooks, String[] told, int[] heat, List<Integer> row, int e, Outcome o) {
        for (int hook : row) {
            int last = row.get(row.size() - 1);
            int x = chosen(told, heat, hook);
            o.said[e][hook] = x;
            o.at[e][0]++;
            if (x >= 8) {
                o.at[e][x - 7]++;
                continue;
            }
            o.times[e][x]++;
            o.highest[x] = Math.max(o.highest[x], hook);
            char sort = told[x].charAt(0);
            int by = sort == 'w' && o.at[e][3] > 0 ? 2 : sort == 'q' && hook == last ? 3 : 1;
            heat[x] = Math.max(0, heat[x] - by);
            if (heat[x] == 0) {
                o.settled[x] = e;
                o.at[e][3]++;
            }
        }
    }

    private static int chosen(String[] told, int[] heat, int hook) {
        boolean any = false;
        for (int t = 0; t < told.length; t++) {
            int mark = told[t].charAt(2) - '0';
            char sort = told[t].charAt(0);
            any |= heat[t] > 0;
            if (heat[t] > 0 && (sort == 'm' && hook <= mark || sort == 'w' && hook >= mark)) {
                return t;
            }
        }
        for (int t = 0; t < told.length; t++) {
            if (heat[t] > 0 && told[t].charAt(0) == 'q') {
                return t;
            }
        }
        return any ? 9 : 8;
    }

    // ---- what is told

    private String hooks() {
        return fault(0) == NONE ? texts[0].toString() : "";
    }

    private String things() {
        return fault(1) == NONE ? texts[1].toString() : "";
    }

    private Outcome now() {
        return live(hooks(), things(), events);
    }

    private int hookCount() {
        return hooks().length();
    }

    private int thingCount() {
        return (things().length() + 1) / 4;
    }

    private static boolean in(int x, int least, int most) {
        return x >= least && x <= most;
    }

    private boolean noThing(int t) {
        return !in(t, 0, thingCount() - 1);
    }

    int type(int text, int b) {
        if (!in(text, 0, 1) || !in(b, 0, 255)) {
            return BAD;
        }
        if (texts[text].length() == (text == 0 ? 12 : 31)) {
            return FULL;
        }
        return texts[text].append((char) b).length();
    }

    int wipe(int text) {
        if (!in(text, 0, 1)) {
            return BAD;
        }
        int had = texts[text].length();
        texts[text].setLength(0);
        return had;
    }

    int undo(int text) {
        if (!in(text, 0, 1)) {
            return BAD;
        }
        if (texts[text].length() == 0) {
            return NOT;
        }
        texts[text].setLength(texts[text].length() - 1);
        return texts[text].length();
    }

    int fault(int text) {
        if (!in(text, 0, 1)) {
            return BAD;
        }
        String s = texts[text].toString();
        if (s.isEmpty()) {
            return NONE;
        }
        Pattern whole = Pattern.compile(text == 0 ? "[hsg]*" : "[mwq][1-9][0-9](;[mwq][1-9][0-9]){0,7}", Pattern.DOTALL);
        for (int n = 1; n <= s.length(); n++) {
            Matcher m = whole.matcher(s.substring(0, n));
            if (!m.matches() && !m.hitEnd()) {
                return n - 1;
            }
        }
        return whole.matcher(s).matches() ? NONE : s.length();
    }

    int hook(int hook) {
        return in(hook, 0, hookCount() - 1) ? "ghs".indexOf(hooks().charAt(hook)) : BAD;
    }

    int thing(int thing, int what) {
        if (noThing(thing) || !in(what, 0, 2)) {
            return BAD;
        }
        char c = things().split(";")[thing].charAt(what);
        return what == 0 ? "mwq".indexOf(c) : c - '0';
    }

    int event(int kind, int evening, int number) {
        if (!in(kind, 0, 2) || !in(evening, 0, 11) || !in(number, 0, 11)) {
            return BAD;
        }
        if (events.size() == 8) {
            return FULL;
        }
        events.add(new int[] {kind, evening, number});
        return events.size();
    }

    int back() {
        if (events.isEmpty()) {
            return NOT;
        }
        events.remove(events.size() - 1);
        return events.size();
    }

    int read(int s) {
        if (!in(s, 0, 3)) {
            return BAD;
        }
        if (sheets[s] == null) {
            return found(1);
        }
        int came = 0;
        while (3 * came + 3 <= size(s)
                && event(item(s, 3 * came), item(s, 3 * came + 1), item(s, 3 * came + 2)) >= 0) {
            came++;
        }
        return came;
    }

    // ---- evenings

    int heat(int evening, int thing, int what) {
        if (!in(evening, 0, 11) || noThing(thing) || !in(what, 0, 1)) {
            return BAD;
        }
        return (what == 0 ? now().heat : now().times)[evening][thing];
    }

    int said(int evening, int hook) {
        return in(evening, 0, 11) && in(hook, 0, hookCount() - 1) ? now().said[evening][hook] : BAD;
    }

    int at(int evening, int what) {
        return in(evening, 0, 11) && in(what, 0, 3) ? now().at[evening][what] : BAD;
    }

    int settled(int thing) {
        return noThing(thing) ? BAD : now().settled[thing];
    }

    int sum(int what) {
        return in(what, 0, 3) ? now().total(what == 0 ? 3 : what - 1) : BAD;
    }

    int peace() {
        Outcome o = now();
        for (int e = 0; e < 12; e++) {
            if (o.behind(e).size() == thingCount()) {
                return e;
            }
        }
        return NONE;
    }

    int longest() {
        Outcome o = now();
        int best = NONE;
        int most = 0;
        for (int t = 0; t < thingCount(); t++) {
            int all = 0;
            for (int e = 0; e < 12; e++) {
                all += o.times[e][t];
            }
            if (all > most) {
                most = all;
                best = t;
            }
        }
        return best;
    }

    int highest(int thing) {
        return noThing(thing) ? BAD : now().highest[thing];
    }

    int sore() {
        int bits = 0;
        Outcome o = now();
        for (int t = 0; t < thingCount(); t++) {
            bits += o.settled[t] == NONE ? 1 << t : 0;
        }
        return bits;
    }

    // ---- plans

    /** Rows of numbers; the better one has more settled, then more of the holiday, then is the least row. */
    private static boolean better(int[] a, int[] b) {
        if (b == null || a[2] != b[2]) {
            return b == null || a[2] > b[2];
        }
        if (a[3] != b[3]) {
            return a[3] > b[3];
        }
        return a[0] != b[0] ? a[0] < b[0] : a[1] < b[1];
    }

    int swap(int what) {
        if (!in(what, 0, 3)) {
            return BAD;
        }
        int[] best = null;
        // from the greatest row on, so that it is better() that tells like ones apart
        for (int a = thingCount() - 1; a >= 0; a--) {
            for (int b = thingCount() - 1; b > a; b--) {
                String[] told = things().split(";");
                String kept = told[a];
                told[a] = told[b];
                told[b] = kept;
                Outcome o = live(hooks(), String.join(";", told), events);
                int[] row = {a, b, o.settledCount(), o.total(1)};
                best = better(row, best) ? row : best;
            }
        }
        return best == null ? NONE : best[what];
    }

    int fit() {
        for (int k = 0; k <= hookCount(); k++) {
            if (live(hooks().substring(0, k), things(), events).all()) {
                return k;
            }
        }
        return NONE;
    }

    int leave(int evening, int what) {
        if (!in(evening, 0, 11) || !in(what, 0, 2)) {
            return BAD;
        }
        int[] best = null;
        for (int k = hookCount() - 1; k >= 0; k--) {
            List<int[]> more = new ArrayList<>(events);
            more.add(new int[] {2, evening, k});
            Outcome o = live(hooks(), things(), more);
            int[] row = {k, 0, o.settledCount(), o.total(1)};
            best = better(row, best) ? row : best;
        }
        return best == null ? NONE : best[what == 0 ? 0 : what + 1];
    }

    private Outcome without(int mask) {
        List<int[]> fewer = new ArrayList<>();
        for (int i = 0; i < events.size(); i++) {
            if ((mask >> i & 1) == 0) {
                fewer.add(events.get(i));
            }
        }
        return live(hooks(), things(), fewer);
    }

    int spare(int i) {
        if (!in(i, -1, 1)) {
            return BAD;
        }
        List<List<Integer>> rows = new ArrayList<>();
        for (int mask = 0; mask < 1 << events.size(); mask++) {
            if (Integer.bitCount(mask) <= 2 && without(mask).all()) {
                List<Integer> row = new ArrayList<>();
                for (int k = 0; k < 8; k++) {
                    if ((mask >> k & 1) == 1) {
                        row.add(k);
                    }
                }
                rows.add(row);
            }
        }
        if (rows.isEmpty()) {
            return NONE;
        }
        rows.sort((a, b) -> a.size() != b.size() ? a.size() - b.size() : a.toString().compareTo(b.toString()));
        List<Integer> best = rows.get(0);
        return i == -1 ? best.size() : i < best.size() ? best.get(i) : NONE;
    }

    // ---- seen, chance, seasons

    int seen(int evening, int thing, int is) {
        if (!in(evening, 0, 11) || !in(thing, 0, 7) || !in(is, 0, 1)) {
            return BAD;
        }
        if (sights.size() == 8) {
            return FULL;
        }
        sights.add(new int[] {evening, thing, is});
        return sights.size();
    }

    int forget() {
        int had = sights.size();
        sights.clear();
        return had;
    }

    private boolean comesOut(Outcome o) {
        return sights.stream().allMatch(v -> v[1] < o.settled.length && o.behind(v[0]).contains(v[1]) == (v[2] == 1));
    }

    int never() {
        int bits = 0;
        for (int i = 0; i < events.size(); i++) {
            bits += comesOut(without(1 << i)) ? 1 << i : 0;
        }
        return bits;
    }

    private Outcome with(int thing, int place, char c) {
        StringBuilder text = new StringBuilder(things());
        text.setCharAt(4 * thing + place, c);
        return live(hooks(), text.toString(), events);
    }

    int was(int thing, int what) {
        if (noThing(thing) || !in(what, 0, 1)) {
            return BAD;
        }
        int bits = 0;
        for (int v = what == 0 ? 1 : 0; v <= (what == 0 ? 9 : 2); v++) {
            Outcome o = what == 0 ? with(thing, 1, (char) ('0' + v)) : with(thing, 0, "mwq".charAt(v));
            bits += comesOut(o) ? 1 << v : 0;
        }
        return bits;
    }

    int ask(int thing) {
        if (noThing(thing)) {
            return BAD;
        }
        int best = NONE;
        int least = Integer.MAX_VALUE;
        for (int e = 0; e < 12; e++) {
            Map<TreeSet<Integer>, Integer> groups = new HashMap<>();
            for (int v = 1; v <= 9; v++) {
                Outcome o = with(thing, 1, (char) ('0' + v));
                if (comesOut(o)) {
                    groups.merge(o.behind(e), 1, Integer::sum);
                }
            }
            int greatest = groups.values().stream().mapToInt(g -> g).max().orElse(0);
            if (greatest < least) {
                least = greatest;
                best = e;
            }
        }
        return best;
    }

    long chance(int c, int thing, int what) {
        if (!in(c, 0, 16) || noThing(thing) || !in(what, 0, 1)) {
            return Long.MIN_VALUE + 2;
        }
        BigInteger above = BigInteger.ZERO;
        int n = events.size();
        for (int mask = 0; mask < 1 << n; mask++) {
            if (without(mask).settled[thing] != NONE) {
                int gone = Integer.bitCount(mask);
                above = above.add(BigInteger.valueOf(c).pow(n - gone).multiply(BigInteger.valueOf(16 - c).pow(gone)));
            }
        }
        BigInteger below = BigInteger.valueOf(16).pow(n);
        BigInteger common = above.gcd(below);
        return (what == 0 ? above : below).divide(common).longValueExact();
    }

    int seasons(int seed, int n, int what) {
        if (!in(n, 0, 8) || !in(what, 0, 1)) {
            return BAD;
        }
        List<String> told = new ArrayList<>();
        int[] lots = {3, 9, 10};
        long s = seed;
        for (int t = 0; t < n; t++) {
            int[] got = new int[3];
            for (int i = 0; i < 3; i++) {
                s = s * 1103515245L + 12345L & 0xffffffffL;
                got[i] = (int) (s / 65536 % lots[i]);
            }
            told.add("mwq".charAt(got[0]) + "" + (got[1] + 1) + got[2]);
        }
        Outcome o = live(hooks(), String.join(";", told), events);
        return what == 0 ? o.settledCount() : o.total(1);
    }

    // ---- sheets

    private int found(int number) {
        finding = number;
        return -10 - number;
    }

    private int size(int s) {
        return java.lang.reflect.Array.getLength(sheets[s]);
    }

    private int item(int s, int i) {
        return ((Number) java.lang.reflect.Array.get(sheets[s], i)).intValue();
    }

    private void store(int s, int i, int v) {
        if (sheets[s] instanceof byte[] row) {
            row[i] = (byte) v;
        } else if (sheets[s] instanceof short[] row) {
            row[i] = (short) v;
        } else {
            ((int[]) sheets[s])[i] = v;
        }
    }

    private static Class<?> classOf(int form) {
        return form == 0 ? byte[].class : form == 1 ? short[].class : int[].class;
    }

    int sheet(int s, int form, int n) {
        if (!in(s, 0, 3) || !in(form, 0, 2) || n > 60) {
            return BAD;
        }
        if (n < 0) {
            return found(5);
        }
        sheets[s] = form == 0 ? new byte[n] : form == 1 ? new short[n] : new int[n];
        return n;
    }

    int lose(int s) {
        if (!in(s, 0, 3)) {
            return BAD;
        }
        if (sheets[s] == null) {
            return found(1);
        }
        int had = size(s);
        sheets[s] = null;
        return had;
    }

    /** 0, or the number of what is found against an item. */
    private int against(int s, int form, int i) {
        return sheets[s] == null ? 1 : sheets[s].getClass() != classOf(form) ? 3 : in(i, 0, size(s) - 1) ? 0 : 2;
    }

    int put(int s, int form, int i, int v) {
        if (!in(s, 0, 3) || !in(form, 0, 2)) {
            return BAD;
        }
        if (against(s, form, i) != 0) {
            return found(against(s, form, i));
        }
        store(s, i, v);
        return 1;
    }

    int get(int s, int form, int i) {
        if (!in(s, 0, 3) || !in(form, 0, 2)) {
            return LEAST;
        }
        if (against(s, form, i) != 0) {
            found(against(s, form, i));
            return LEAST;
        }
        return item(s, i);
    }

    int copy(int s, int i, int t, int j, int n) {
        if (!in(s, 0, 3) || !in(t, 0, 3)) {
            return BAD;
        }
        if (sheets[s] == null || sheets[t] == null) {
            return found(1);
        }
        if (sheets[s].getClass() != sheets[t].getClass()) {
            return found(4);
        }
        if (i < 0 || j < 0 || n < 0 || (long) i + n > size(s) || (long) j + n > size(t)) {
            return found(2);
        }
        int[] kept = new int[n];
        for (int k = 0; k < n; k++) {
            kept[k] = item(s, i + k);
        }
        for (int k = 0; k < n; k++) {
            store(t, j + k, kept[k]);
        }
        return 1;
    }

    int write(int evening, int s) {
        if (!in(evening, 0, 11) || !in(s, 0, 3)) {
            return BAD;
        }
        if (sheets[s] == null) {
            return found(1);
        }
        int n = 0;
        while (n < size(s) && n < hookCount()) {
            store(s, n, said(evening, n));
            n++;
        }
        return n;
    }

    int count(int what) {
        int[] all = {hookCount(), thingCount(), texts[0].length(), texts[1].length(), events.size(), sum(0), sum(2),
            sights.size(), finding};
        return in(what, 0, 8) ? all[what] : BAD;
    }

    long digest() {
        List<Long> row = new ArrayList<>();
        for (int what = 0; what <= 7; what++) {
            add(row, count(what));
        }
        add(row, fault(0), fault(1));
        for (int k = 0; k < hookCount(); k++) {
            add(row, hook(k), said(0, k), said(3, k), said(11, k));
        }
        for (int e = 0; e <= 11; e++) {
            add(row, at(e, 0), at(e, 1), at(e, 2), at(e, 3), leave(e, 0), leave(e, 1), leave(e, 2));
        }
        for (int t = 0; t < thingCount(); t++) {
            add(row, thing(t, 0), thing(t, 1), thing(t, 2));
            for (int e : new int[] {0, 4, 11}) {
                add(row, heat(e, t, 0), heat(e, t, 1));
            }
            add(row, settled(t), highest(t), was(t, 0), was(t, 1), ask(t), chance(5, t, 0), chance(5, t, 1));
        }
        add(row, sum(0), sum(1), sum(2), sum(3), peace(), longest(), sore());
        add(row, swap(0), swap(1), swap(2), swap(3), fit(), spare(NONE), spare(0), never());
        add(row, seasons(7, 6, 0), seasons(7, 6, 1));
        long h = 17;
        for (long v : row) {
            h = 31 * h + v;
        }
        return h;
    }

    /** Calls by which a new object comes to hold what stands here, but for sheets and count(8). */
    List<Call> retold() {
        List<Call> calls = new ArrayList<>();
        for (int text = 0; text < 2; text++) {
            for (int i = 0; i < texts[text].length(); i++) {
                calls.add(new Call("type", text, texts[text].charAt(i)));
            }
        }
        events.forEach(v -> calls.add(new Call("event", v)));
        sights.forEach(v -> calls.add(new Call("seen", v)));
        return calls;
    }

    private static void add(List<Long> row, long... values) {
        for (long v : values) {
            row.add(v);
        }
    }
}
