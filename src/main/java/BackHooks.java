import java.util.Arrays;

/** Hooks and eyes down the back of a frock, and what is settled while they are done up. */
public final class BackHooks {
    public static final int NONE = -1, BAD = -2, NOT = -3, FULL = -4;

    private static final int HOOKS = 12;
    private static final int THINGS = 8;
    private static final int EVENINGS = 12;
    private static final int LAST_EVENING = EVENINGS - 1;
    /** As many may be told, and as many seen. */
    private static final int EVENTS = 8;
    private static final int SHEETS = 4;
    private static final int ITEMS = 60;
    private static final int HOTTEST = 9;
    private static final int SIXTEENTHS = 16;
    private static final int LEAST_INT = 1 << 31;
    private static final long LEAST_LONG = 1L << 63;

    /** Eight things of three bytes with a ; between them: a ninth has no room. */
    private static final int THING_BYTES = 4 * THINGS - 1;

    private static final int MONEY = 1;
    private static final int QUIET = 2;
    private static final int SORTS = 3;

    private static final int HOLIDAY = 8;
    private static final int NOTHING = 9;

    private static final int KIND_MAID = 0;
    private static final int KIND_FRONT = 1;
    private static final int KINDS = 3;
    private static final int FRONT_BIT = 1 << KIND_FRONT;

    private static final int FORM_BYTES = 0;
    private static final int FORM_SHORTS = 1;
    private static final int FORMS = 3;

    private static final int NULL_FINDING = 1;
    private static final int INDEX_FINDING = 2;
    private static final int CAST_FINDING = 3;
    private static final int STORE_FINDING = 4;
    private static final int SIZE_FINDING = 5;

    private final Text hookText = new Text(HOOKS);
    private final Text thingText = new Text(THING_BYTES);
    private final Triples events = new Triples();
    private final Triples sights = new Triples();
    private final Sheet[] sheets = new Sheet[SHEETS];

    private final Setting told = new Setting();
    private final Setting tried = new Setting();
    private final Course toldCourse = new Course();
    private final Course triedCourse = new Course();
    private final Choice choice = new Choice();
    private final Heats heats = new Heats();
    private final Lots lots = new Lots();
    /** Which things are settled in the end, by which events (as bits) there are. */
    private final int[] ends = new int[1 << EVENTS];

    private boolean toldIsStale = true;
    private boolean endsAreStale = true;
    private int latestFinding = 0;

    public BackHooks() {
        for (int s = 0; s < SHEETS; s++) {
            sheets[s] = new Sheet();
        }
    }

    // ---- hooks, things, events

    public int type(int text, int b) {
        if (!isText(text) || b < 0 || b > 255) {
            return BAD;
        }
        Text t = textOf(text);
        if (t.length >= t.limit) {
            return FULL;
        }
        t.bytes[t.length] = b;
        t.length++;
        noteChange();
        return t.length;
    }

    public int wipe(int text) {
        if (!isText(text)) {
            return BAD;
        }
        Text t = textOf(text);
        int had = t.length;
        t.length = 0;
        noteChange();
        return had;
    }

    public int undo(int text) {
        if (!isText(text)) {
            return BAD;
        }
        Text t = textOf(text);
        if (t.length == 0) {
            return NOT;
        }
        t.length--;
        noteChange();
        return t.length;
    }

    public int fault(int text) {
        if (!isText(text)) {
            return BAD;
        }
        return text == 0 ? hookText.faultOfHooks() : thingText.faultOfThings();
    }

    public int hook(int hook) {
        refresh();
        return isHook(hook) ? told.takes[hook] : BAD;
    }

    public int thing(int thing, int what) {
        refresh();
        if (!isThing(thing) || !isBelow(what, 3)) {
            return BAD;
        }
        if (what == 0) {
            return told.sort[thing];
        }
        return what == 1 ? told.warmth[thing] : told.mark[thing];
    }

    public int event(int kind, int evening, int number) {
        if (!isEvent(kind, evening, number)) {
            return BAD;
        }
        if (events.isFull()) {
            return FULL;
        }
        events.append(kind, evening, number);
        noteChange();
        return events.size;
    }

    public int back() {
        if (events.size == 0) {
            return NOT;
        }
        events.size--;
        noteChange();
        return events.size;
    }

    public int read(int s) {
        if (!isSheet(s)) {
            return BAD;
        }
        Sheet from = sheets[s];
        if (from.isLost()) {
            return findingOf(NULL_FINDING);
        }
        int came = 0;
        for (int i = 0; i + 2 < from.size; i += 3) {
            if (event(from.items[i], from.items[i + 1], from.items[i + 2]) < 0) {
                break;
            }
            came++;
        }
        return came;
    }

    // ---- evenings

    public int heat(int evening, int thing, int what) {
        refresh();
        if (!isEvening(evening) || !isThing(thing) || !isBelow(what, 2)) {
            return BAD;
        }
        int place = evening * THINGS + thing;
        return what == 0 ? toldCourse.heatBehind[place] : toldCourse.minutesOfThing[place];
    }

    public int said(int evening, int hook) {
        refresh();
        if (!isEvening(evening) || !isHook(hook)) {
            return BAD;
        }
        return toldCourse.lastSaid[evening * HOOKS + hook];
    }

    public int at(int evening, int what) {
        refresh();
        if (!isEvening(evening) || !isBelow(what, 4)) {
            return BAD;
        }
        return toldCourse.eveningAnswer(evening, what);
    }

    public int settled(int thing) {
        refresh();
        return isThing(thing) ? toldCourse.settledOn[thing] : BAD;
    }

    public int sum(int what) {
        refresh();
        return isBelow(what, 4) ? toldCourse.sumAnswer(what) : BAD;
    }

    public int peace() {
        refresh();
        return toldCourse.firstPeace(told.allThings());
    }

    public int longest() {
        refresh();
        return toldCourse.thingSaidMost();
    }

    public int highest(int thing) {
        refresh();
        return isThing(thing) ? toldCourse.highestHook[thing] : BAD;
    }

    public int sore() {
        refresh();
        return unsettledThings();
    }

    // ---- plans

    public int swap(int what) {
        if (!isBelow(what, 4)) {
            return BAD;
        }
        refresh();
        chooseSwap();
        return choice.swapAnswer(what);
    }

    public int fit() {
        refresh();
        return fewestHooks();
    }

    public int leave(int evening, int what) {
        if (!isEvening(evening) || !isBelow(what, 3)) {
            return BAD;
        }
        refresh();
        chooseLeft(evening);
        return choice.leaveAnswer(what);
    }

    public int spare(int i) {
        if (i < NONE || i > 1) {
            return BAD;
        }
        refresh();
        refreshEnds();
        chooseSpared();
        return choice.spareAnswer(i);
    }

    // ---- seen, chance, seasons

    public int seen(int evening, int thing, int is) {
        if (!isEvening(evening) || !isBelow(thing, THINGS) || !isBelow(is, 2)) {
            return BAD;
        }
        if (sights.isFull()) {
            return FULL;
        }
        sights.append(evening, thing, is);
        return sights.size;
    }

    public int forget() {
        int had = sights.size;
        sights.size = 0;
        return had;
    }

    public int never() {
        refresh();
        return eventsThatNeverWere();
    }

    public int was(int thing, int what) {
        refresh();
        if (!isThing(thing) || !isBelow(what, 2)) {
            return BAD;
        }
        if (what == 1) {
            return sortsThatFit(thing);
        }
        tryHeats(thing);
        return heats.fitting;
    }

    public int ask(int thing) {
        refresh();
        if (!isThing(thing)) {
            return BAD;
        }
        tryHeats(thing);
        return heats.eveningToAsk();
    }

    public long chance(int c, int thing, int what) {
        refresh();
        if (c < 0 || c > SIXTEENTHS || !isThing(thing) || !isBelow(what, 2)) {
            return LEAST_LONG - BAD;
        }
        refreshEnds();
        return chanceOf(c, thing, what);
    }

    public int seasons(int seed, int n, int what) {
        if (n < 0 || n > THINGS || !isBelow(what, 2)) {
            return BAD;
        }
        refresh();
        runSeason(seed, n);
        return what == 0 ? triedCourse.settledInAll : sumOf(triedCourse.holiday);
    }

    // ---- sheets

    public int sheet(int s, int form, int n) {
        if (!isSheet(s) || !isBelow(form, FORMS) || n > ITEMS) {
            return BAD;
        }
        if (n < 0) {
            return findingOf(SIZE_FINDING);
        }
        sheets[s].lay(form, n);
        return n;
    }

    public int lose(int s) {
        if (!isSheet(s)) {
            return BAD;
        }
        if (sheets[s].isLost()) {
            return findingOf(NULL_FINDING);
        }
        int had = sheets[s].size;
        sheets[s].size = NONE;
        return had;
    }

    public int put(int s, int form, int i, int v) {
        if (!isSheet(s) || !isBelow(form, FORMS)) {
            return BAD;
        }
        int finding = sheets[s].findingAt(form, i);
        if (finding != 0) {
            return findingOf(finding);
        }
        sheets[s].items[i] = sheets[s].lowestBits(v);
        return 1;
    }

    public int get(int s, int form, int i) {
        if (!isSheet(s) || !isBelow(form, FORMS)) {
            return LEAST_INT;
        }
        int finding = sheets[s].findingAt(form, i);
        if (finding != 0) {
            latestFinding = finding;
            return LEAST_INT;
        }
        return sheets[s].items[i];
    }

    public int copy(int s, int i, int t, int j, int n) {
        if (!isSheet(s) || !isSheet(t)) {
            return BAD;
        }
        Sheet from = sheets[s];
        Sheet to = sheets[t];
        if (from.isLost() || to.isLost()) {
            return findingOf(NULL_FINDING);
        }
        if (from.form != to.form) {
            return findingOf(STORE_FINDING);
        }
        if (!from.hasStretch(i, n) || !to.hasStretch(j, n)) {
            return findingOf(INDEX_FINDING);
        }
        System.arraycopy(from.items, i, to.items, j, n);
        return 1;
    }

    public int write(int evening, int s) {
        if (!isEvening(evening) || !isSheet(s)) {
            return BAD;
        }
        Sheet to = sheets[s];
        if (to.isLost()) {
            return findingOf(NULL_FINDING);
        }
        refresh();
        int n = Math.min(to.size, told.hooks);
        for (int k = 0; k < n; k++) {
            to.items[k] = toldCourse.lastSaid[evening * HOOKS + k];
        }
        return n;
    }

    public int count(int what) {
        refresh();
        switch (what) {
            case 0:
                return told.hooks;
            case 1:
                return told.things;
            case 2:
                return hookText.length;
            case 3:
                return thingText.length;
            case 4:
                return events.size;
            case 5:
                return toldCourse.settledInAll;
            case 6:
                return sumOf(toldCourse.holiday);
            case 7:
                return sights.size;
            case 8:
                return latestFinding;
            default:
                return BAD;
        }
    }

    public long digest() {
        refresh();
        refreshEnds();
        long h = 17;
        for (int what = 0; what <= 7; what++) {
            h = 31 * h + count(what);
        }
        h = 31 * h + fault(0);
        h = 31 * h + fault(1);
        for (int k = 0; k < told.hooks; k++) {
            h = foldHook(h, k);
        }
        for (int e = 0; e < EVENINGS; e++) {
            h = foldEvening(h, e);
        }
        for (int t = 0; t < told.things; t++) {
            h = foldThing(h, t);
        }
        h = foldSums(h);
        return foldPlans(h);
    }

    private long foldHook(long start, int k) {
        long h = 31 * start + told.takes[k];
        h = 31 * h + toldCourse.lastSaid[k];
        h = 31 * h + toldCourse.lastSaid[3 * HOOKS + k];
        return 31 * h + toldCourse.lastSaid[LAST_EVENING * HOOKS + k];
    }

    private long foldEvening(long start, int e) {
        long h = start;
        for (int what = 0; what < 4; what++) {
            h = 31 * h + toldCourse.eveningAnswer(e, what);
        }
        chooseLeft(e);
        for (int what = 0; what < 3; what++) {
            h = 31 * h + choice.leaveAnswer(what);
        }
        return h;
    }

    private long foldThing(long start, int t) {
        long h = 31 * start + told.sort[t];
        h = 31 * h + told.warmth[t];
        h = 31 * h + told.mark[t];
        h = foldHeat(h, t);
        h = foldHeat(h, 4 * THINGS + t);
        h = foldHeat(h, LAST_EVENING * THINGS + t);
        h = 31 * h + toldCourse.settledOn[t];
        h = 31 * h + toldCourse.highestHook[t];
        tryHeats(t);
        h = 31 * h + heats.fitting;
        h = 31 * h + sortsThatFit(t);
        h = 31 * h + heats.eveningToAsk();
        h = 31 * h + chanceOf(5, t, 0);
        return 31 * h + chanceOf(5, t, 1);
    }

    private long foldHeat(long start, int place) {
        long h = 31 * start + toldCourse.heatBehind[place];
        return 31 * h + toldCourse.minutesOfThing[place];
    }

    private long foldSums(long start) {
        long h = start;
        for (int what = 0; what < 4; what++) {
            h = 31 * h + toldCourse.sumAnswer(what);
        }
        h = 31 * h + toldCourse.firstPeace(told.allThings());
        h = 31 * h + toldCourse.thingSaidMost();
        return 31 * h + unsettledThings();
    }

    private long foldPlans(long start) {
        long h = start;
        chooseSwap();
        for (int what = 0; what < 4; what++) {
            h = 31 * h + choice.swapAnswer(what);
        }
        h = 31 * h + fewestHooks();
        chooseSpared();
        h = 31 * h + choice.spareAnswer(NONE);
        h = 31 * h + choice.spareAnswer(0);
        h = 31 * h + eventsThatNeverWere();
        runSeason(7, 6);
        h = 31 * h + triedCourse.settledInAll;
        return 31 * h + sumOf(triedCourse.holiday);
    }

    // ---- what may be asked for

    private static boolean isBelow(int x, int limit) {
        return x >= 0 && x < limit;
    }

    private static boolean isText(int text) {
        return isBelow(text, 2);
    }

    private static boolean isEvening(int evening) {
        return isBelow(evening, EVENINGS);
    }

    private static boolean isSheet(int s) {
        return isBelow(s, SHEETS);
    }

    private static boolean isEvent(int kind, int evening, int number) {
        return isBelow(kind, KINDS) && isEvening(evening) && isBelow(number, HOOKS);
    }

    private boolean isHook(int hook) {
        return isBelow(hook, told.hooks);
    }

    private boolean isThing(int thing) {
        return isBelow(thing, told.things);
    }

    private Text textOf(int text) {
        return text == 0 ? hookText : thingText;
    }

    private int findingOf(int number) {
        latestFinding = number;
        return -10 - number;
    }

    private static int sumOf(int[] row) {
        int all = 0;
        for (int x : row) {
            all += x;
        }
        return all;
    }

    // ---- what is told, and trials of it

    private void noteChange() {
        toldIsStale = true;
        endsAreStale = true;
    }

    /** Typing comes byte by byte, so the evenings are gone through when they are asked for. */
    private void refresh() {
        if (!toldIsStale) {
            return;
        }
        told.takeHooks(hookText);
        told.takeThings(thingText);
        told.takeEvents(events, allEvents());
        toldCourse.run(told);
        toldIsStale = false;
    }

    private int allEvents() {
        return (1 << events.size) - 1;
    }

    private int unsettledThings() {
        return told.allThings() & ~toldCourse.settledBehind(LAST_EVENING);
    }

    private int fewestHooks() {
        tried.copyFrom(told);
        for (int k = 0; k <= told.hooks; k++) {
            tried.hooks = k;
            triedCourse.run(tried);
            if (triedCourse.settledInAll == tried.things) {
                return k;
            }
        }
        return NONE;
    }

    private void chooseSwap() {
        tried.copyFrom(told);
        choice.clear();
        for (int a = 0; a < told.things; a++) {
            for (int b = a + 1; b < told.things; b++) {
                tried.exchange(a, b);
                triedCourse.run(tried);
                choice.offer(a, b, triedCourse.settledInAll, sumOf(triedCourse.holiday));
                tried.exchange(a, b);
            }
        }
    }

    private void chooseLeft(int evening) {
        tried.copyFrom(told);
        choice.clear();
        for (int k = 0; k < told.hooks; k++) {
            tried.left[evening] = told.left[evening] | 1 << k;
            triedCourse.run(tried);
            choice.offer(k, NONE, triedCourse.settledInAll, sumOf(triedCourse.holiday));
        }
    }

    /** Rows come by length, then by their items, so the first that will do is the one. */
    private void chooseSpared() {
        choice.clear();
        int all = told.allThings();
        int every = allEvents();
        if (ends[every] == all) {
            choice.offer(NONE, NONE, 0, 0);
            return;
        }
        for (int a = 0; a < events.size; a++) {
            if (ends[every & ~(1 << a)] == all) {
                choice.offer(a, NONE, 0, 0);
                return;
            }
        }
        for (int a = 0; a < events.size; a++) {
            for (int b = a + 1; b < events.size; b++) {
                if (ends[every & ~(1 << a | 1 << b)] == all) {
                    choice.offer(a, b, 0, 0);
                    return;
                }
            }
        }
    }

    private int eventsThatNeverWere() {
        tried.copyFrom(told);
        int bits = 0;
        for (int i = 0; i < events.size; i++) {
            tried.takeEvents(events, allEvents() & ~(1 << i));
            triedCourse.run(tried);
            if (allComesOut()) {
                bits |= 1 << i;
            }
        }
        return bits;
    }

    private boolean allComesOut() {
        for (int i = 0; i < sights.size; i++) {
            int evening = sights.first[i];
            int thing = sights.second[i];
            if (thing >= tried.things) {
                return false;
            }
            int is = triedCourse.settledBehind(evening) >> thing & 1;
            if (is != sights.third[i]) {
                return false;
            }
        }
        return true;
    }

    private int sortsThatFit(int thing) {
        tried.copyFrom(told);
        int bits = 0;
        for (int sort = 0; sort < SORTS; sort++) {
            tried.sort[thing] = sort;
            triedCourse.run(tried);
            if (allComesOut()) {
                bits |= 1 << sort;
            }
        }
        return bits;
    }

    private void tryHeats(int thing) {
        tried.copyFrom(told);
        heats.fitting = 0;
        for (int heat = 1; heat <= HOTTEST; heat++) {
            tried.warmth[thing] = heat;
            triedCourse.run(tried);
            if (allComesOut()) {
                heats.fitting |= 1 << heat;
            }
            for (int e = 0; e < EVENINGS; e++) {
                heats.settledBy[heat * EVENINGS + e] = triedCourse.settledBehind(e);
            }
        }
    }

    private void refreshEnds() {
        if (!endsAreStale) {
            return;
        }
        tried.copyFrom(told);
        int every = allEvents();
        for (int which = 0; which <= every; which++) {
            tried.takeEvents(events, which);
            triedCourse.run(tried);
            ends[which] = triedCourse.settledBehind(LAST_EVENING);
        }
        endsAreStale = false;
    }

    private long chanceOf(int c, int thing, int what) {
        long above = 0;
        int every = allEvents();
        for (int which = 0; which <= every; which++) {
            if ((ends[which] >> thing & 1) == 1) {
                above += weightOf(c, which);
            }
        }
        long below = 1L << 4 * events.size;
        // below is a power of 2, so halving alone finds the lowest terms
        for (int i = 0; i < 4 * EVENTS && below > 1 && (above & 1) == 0; i++) {
            above >>= 1;
            below >>= 1;
        }
        return what == 0 ? above : below;
    }

    private long weightOf(int c, int which) {
        long weight = 1;
        for (int i = 0; i < events.size; i++) {
            weight *= (which >> i & 1) == 1 ? c : SIXTEENTHS - c;
        }
        return weight;
    }

    private void runSeason(int seed, int n) {
        tried.copyFrom(told);
        lots.seed = seed;
        tried.things = n;
        for (int t = 0; t < n; t++) {
            tried.sort[t] = lots.draw(SORTS);
            tried.warmth[t] = lots.draw(HOTTEST) + 1;
            tried.mark[t] = lots.draw(10);
        }
        triedCourse.run(tried);
    }

    /** A text as it was typed, well or not. */
    private static final class Text {
        final int[] bytes = new int[THING_BYTES];
        final int limit;
        int length = 0;

        Text(int limit) {
            this.limit = Math.min(limit, THING_BYTES);
        }

        int faultOfHooks() {
            for (int i = 0; i < length; i++) {
                if (minutesOf(bytes[i]) == NONE) {
                    return i;
                }
            }
            return NONE;
        }

        int faultOfThings() {
            for (int i = 0; i < length; i++) {
                if (!mayStand(i, bytes[i])) {
                    return i;
                }
            }
            return length == 0 || length % 4 == 3 ? NONE : length;
        }

        private static boolean mayStand(int place, int b) {
            switch (place % 4) {
                case 0:
                    return sortOf(b) != NONE;
                case 1:
                    return b >= '1' && b <= '9';
                case 2:
                    return b >= '0' && b <= '9';
                default:
                    return b == ';';
            }
        }

        static int minutesOf(int b) {
            switch (b) {
                case 'g':
                    return 0;
                case 'h':
                    return 1;
                case 's':
                    return 2;
                default:
                    return NONE;
            }
        }

        static int sortOf(int b) {
            switch (b) {
                case 'm':
                    return 0;
                case 'w':
                    return MONEY;
                case 'q':
                    return QUIET;
                default:
                    return NONE;
            }
        }
    }

    /** Events, or what was seen: rows of three numbers. */
    private static final class Triples {
        final int[] first = new int[EVENTS];
        final int[] second = new int[EVENTS];
        final int[] third = new int[EVENTS];
        int size = 0;

        boolean isFull() {
            return size >= EVENTS;
        }

        void append(int a, int b, int c) {
            if (isFull()) {
                return;
            }
            first[size] = a;
            second[size] = b;
            third[size] = c;
            size++;
        }
    }

    /** What the evenings go by: hooks, things and events, as told or as tried. */
    private static final class Setting {
        int hooks = 0;
        int things = 0;
        final int[] takes = new int[HOOKS];
        final int[] sort = new int[THINGS];
        final int[] warmth = new int[THINGS];
        final int[] mark = new int[THINGS];
        /** Of each evening, the hooks that are left, as bits. */
        final int[] left = new int[EVENINGS];
        /** Of each evening, whether a maid or the front keeps them silent, as bits by kind. */
        final int[] silence = new int[EVENINGS];

        void takeHooks(Text text) {
            hooks = text.faultOfHooks() == NONE ? text.length : 0;
            for (int k = 0; k < hooks; k++) {
                takes[k] = Text.minutesOf(text.bytes[k]);
            }
        }

        void takeThings(Text text) {
            things = text.faultOfThings() == NONE ? (text.length + 1) / 4 : 0;
            for (int t = 0; t < things; t++) {
                sort[t] = Text.sortOf(text.bytes[4 * t]);
                warmth[t] = text.bytes[4 * t + 1] - '0';
                mark[t] = text.bytes[4 * t + 2] - '0';
            }
        }

        void takeEvents(Triples events, int which) {
            Arrays.fill(left, 0);
            Arrays.fill(silence, 0);
            for (int i = 0; i < events.size; i++) {
                if ((which >> i & 1) == 1) {
                    takeEvent(events.first[i], events.second[i], events.third[i]);
                }
            }
        }

        private void takeEvent(int kind, int evening, int number) {
            if (kind == KIND_MAID || kind == KIND_FRONT) {
                silence[evening] |= 1 << kind;
            } else {
                left[evening] |= 1 << number;
            }
        }

        void copyFrom(Setting other) {
            hooks = other.hooks;
            things = other.things;
            System.arraycopy(other.takes, 0, takes, 0, HOOKS);
            System.arraycopy(other.sort, 0, sort, 0, THINGS);
            System.arraycopy(other.warmth, 0, warmth, 0, THINGS);
            System.arraycopy(other.mark, 0, mark, 0, THINGS);
            System.arraycopy(other.left, 0, left, 0, EVENINGS);
            System.arraycopy(other.silence, 0, silence, 0, EVENINGS);
        }

        /** All things, as bits. */
        int allThings() {
            return (1 << things) - 1;
        }

        void exchange(int a, int b) {
            exchangeIn(sort, a, b);
            exchangeIn(warmth, a, b);
            exchangeIn(mark, a, b);
        }

        private static void exchangeIn(int[] row, int a, int b) {
            int kept = row[a];
            row[a] = row[b];
            row[b] = kept;
        }
    }

    /** What comes of a setting, evening by evening. */
    private static final class Course {
        final int[] heatNow = new int[THINGS];
        final int[] settledOn = new int[THINGS];
        final int[] highestHook = new int[THINGS];
        final int[] minutesInAll = new int[THINGS];
        final int[] heatBehind = new int[EVENINGS * THINGS];
        final int[] minutesOfThing = new int[EVENINGS * THINGS];
        final int[] lastSaid = new int[EVENINGS * HOOKS];
        final int[] minutes = new int[EVENINGS];
        final int[] holiday = new int[EVENINGS];
        final int[] nothing = new int[EVENINGS];
        final int[] settledIn = new int[EVENINGS];
        int settledInAll = 0;

        void run(Setting s) {
            begin(s);
            for (int e = 0; e < EVENINGS; e++) {
                if (e > 0) {
                    heatUp(s.things);
                }
                if ((s.silence[e] & FRONT_BIT) != 0) {
                    heatUp(s.things);
                }
                if (s.silence[e] == 0) {
                    doHooks(s, e);
                }
                System.arraycopy(heatNow, 0, heatBehind, e * THINGS, THINGS);
            }
        }

        private void begin(Setting s) {
            System.arraycopy(s.warmth, 0, heatNow, 0, THINGS);
            Arrays.fill(settledOn, NONE);
            Arrays.fill(highestHook, NONE);
            Arrays.fill(minutesInAll, 0);
            Arrays.fill(minutesOfThing, 0);
            Arrays.fill(lastSaid, NONE);
            Arrays.fill(minutes, 0);
            Arrays.fill(holiday, 0);
            Arrays.fill(nothing, 0);
            Arrays.fill(settledIn, 0);
            settledInAll = 0;
        }

        private void heatUp(int things) {
            for (int t = 0; t < things; t++) {
                if (settledOn[t] == NONE && heatNow[t] < HOTTEST) {
                    heatNow[t]++;
                }
            }
        }

        private void doHooks(Setting s, int e) {
            int left = s.left[e] & (1 << s.hooks) - 1;
            int last = lastHookDone(s, left);
            for (int k = 0; k < s.hooks; k++) {
                if ((left >> k & 1) == 0) {
                    doHook(s, e, k, s.takes[k], k == last);
                }
            }
            for (int k = 0; k < s.hooks; k++) {
                if ((left >> k & 1) == 1) {
                    doHook(s, e, k, s.takes[k] + 1, k == last);
                }
            }
        }

        /** Any hook that is left takes a minute and comes behind all others. */
        private static int lastHookDone(Setting s, int left) {
            int last = NONE;
            for (int k = 0; k < s.hooks; k++) {
                boolean mayBeLast = left != 0 ? (left >> k & 1) == 1 : s.takes[k] > 0;
                if (mayBeLast) {
                    last = k;
                }
            }
            return last;
        }

        private void doHook(Setting s, int e, int hook, int takes, boolean isLast) {
            for (int m = 0; m < takes; m++) {
                int what = whatIsSaid(s, hook);
                minutes[e]++;
                lastSaid[e * HOOKS + hook] = what;
                if (what == HOLIDAY) {
                    holiday[e]++;
                } else if (what == NOTHING) {
                    nothing[e]++;
                } else {
                    minutesOfThing[e * THINGS + what]++;
                    minutesInAll[what]++;
                    if (hook > highestHook[what]) {
                        highestHook[what] = hook;
                    }
                    soften(s.sort[what], e, what, isLast);
                }
            }
        }

        private int whatIsSaid(Setting s, int hook) {
            if (settledInAll == s.things) {
                return HOLIDAY;
            }
            int quiet = NONE;
            for (int t = 0; t < s.things; t++) {
                if (settledOn[t] != NONE) {
                    continue;
                }
                if (s.sort[t] == QUIET) {
                    quiet = quiet == NONE ? t : quiet;
                } else if (s.sort[t] == MONEY ? hook >= s.mark[t] : hook <= s.mark[t]) {
                    return t;
                }
            }
            return quiet == NONE ? NOTHING : quiet;
        }

        private void soften(int sort, int e, int thing, boolean isLast) {
            int by = 1;
            if (sort == MONEY && settledIn[e] > 0) {
                by = 2;
            } else if (sort == QUIET && isLast) {
                by = 3;
            }
            heatNow[thing] -= by;
            if (heatNow[thing] <= 0) {
                heatNow[thing] = 0;
                settledOn[thing] = e;
                settledIn[e]++;
                settledInAll++;
            }
        }

        int settledBehind(int e) {
            int bits = 0;
            for (int t = 0; t < THINGS; t++) {
                if (settledOn[t] != NONE && settledOn[t] <= e) {
                    bits |= 1 << t;
                }
            }
            return bits;
        }

        int firstPeace(int allThings) {
            for (int e = 0; e < EVENINGS; e++) {
                if (settledBehind(e) == allThings) {
                    return e;
                }
            }
            return NONE;
        }

        int thingSaidMost() {
            int best = NONE;
            int most = 0;
            for (int t = 0; t < THINGS; t++) {
                if (minutesInAll[t] > most) {
                    most = minutesInAll[t];
                    best = t;
                }
            }
            return best;
        }

        int eveningAnswer(int e, int what) {
            switch (what) {
                case 0:
                    return minutes[e];
                case 1:
                    return holiday[e];
                case 2:
                    return nothing[e];
                default:
                    return settledIn[e];
            }
        }

        int sumAnswer(int what) {
            switch (what) {
                case 0:
                    return settledInAll;
                case 1:
                    return sumOf(minutes);
                case 2:
                    return sumOf(holiday);
                default:
                    return sumOf(nothing);
            }
        }
    }

    /** The best of what was offered; of like ones the first, so offers come from the least on. */
    private static final class Choice {
        boolean isMade = false;
        int first = NONE;
        int other = NONE;
        int settledThings = NONE;
        int holidayMinutes = NONE;

        void clear() {
            isMade = false;
            first = NONE;
            other = NONE;
            settledThings = NONE;
            holidayMinutes = NONE;
        }

        void offer(int a, int b, int things, int minutes) {
            boolean isBetter = things > settledThings
                    || things == settledThings && minutes > holidayMinutes;
            if (isMade && !isBetter) {
                return;
            }
            isMade = true;
            first = a;
            other = b;
            settledThings = things;
            holidayMinutes = minutes;
        }

        int swapAnswer(int what) {
            if (what == 0) {
                return first;
            }
            return what == 1 ? other : leaveAnswer(what - 1);
        }

        int leaveAnswer(int what) {
            if (what == 0) {
                return first;
            }
            return what == 1 ? settledThings : holidayMinutes;
        }

        int spareAnswer(int i) {
            if (i == 0) {
                return first;
            }
            if (i == 1) {
                return other;
            }
            if (!isMade) {
                return NONE;
            }
            return (first == NONE ? 0 : 1) + (other == NONE ? 0 : 1);
        }
    }

    /** The heats at first by which all that was seen comes out, and what each settles. */
    private static final class Heats {
        int fitting = 0;
        final int[] settledBy = new int[(HOTTEST + 1) * EVENINGS];

        int eveningToAsk() {
            int best = 0;
            int least = greatestLikeness(0);
            for (int e = 1; e < EVENINGS; e++) {
                int greatest = greatestLikeness(e);
                if (greatest < least) {
                    least = greatest;
                    best = e;
                }
            }
            return best;
        }

        private int greatestLikeness(int e) {
            int greatest = 0;
            for (int heat = 1; heat <= HOTTEST; heat++) {
                if ((fitting >> heat & 1) == 1) {
                    greatest = Math.max(greatest, likenessOf(heat, e));
                }
            }
            return greatest;
        }

        private int likenessOf(int heat, int e) {
            int alike = 0;
            int things = settledBy[heat * EVENINGS + e];
            for (int other = 1; other <= HOTTEST; other++) {
                if ((fitting >> other & 1) == 1 && settledBy[other * EVENINGS + e] == things) {
                    alike++;
                }
            }
            return alike;
        }
    }

    /** Lots by a seed. */
    private static final class Lots {
        int seed = 0;

        int draw(int m) {
            seed = 1103515245 * seed + 12345;
            return m > 0 ? (seed >>> 16) % m : 0;
        }
    }

    /** A row of items of a form; below no items it is lost. */
    private static final class Sheet {
        int form = FORM_BYTES;
        int size = NONE;
        final int[] items = new int[ITEMS];

        boolean isLost() {
            return size < 0;
        }

        void lay(int newForm, int n) {
            form = newForm;
            size = n;
            Arrays.fill(items, 0);
        }

        /** The number of the finding against item i as of a form; 0 if there is none. */
        int findingAt(int asForm, int i) {
            if (isLost()) {
                return NULL_FINDING;
            }
            if (form != asForm) {
                return CAST_FINDING;
            }
            return isBelow(i, size) ? 0 : INDEX_FINDING;
        }

        /** Told by what is left behind the start, as start and n might wrap together. */
        boolean hasStretch(int start, int n) {
            return start >= 0 && n >= 0 && start <= size && n <= size - start;
        }

        int lowestBits(int v) {
            if (form == FORM_BYTES) {
                return (byte) v;
            }
            return form == FORM_SHORTS ? (short) v : v;
        }
    }
}
