import java.util.ArrayList;
import java.util.Arrays;
import java.util.List;

/** Promises 37 and 38 at their bounds, sentence by sentence: count, digest, refusals as such, 512 calls. */
public final class CountBoundsTest {
    private static final int NONE = BackHooks.NONE, BAD = BackHooks.BAD, NOT = BackHooks.NOT, FULL = BackHooks.FULL;
    private static final int NULL = 1, INDEX = 2, CAST = 3, STORE = 4, SIZE = 5;
    private static final int MAID = 0, FRONT = 1, LEFT = 2;
    private static final String EIGHT = "m19;m19;m19;m19;m19;m19;m19;m19";

    public static void main(String[] args) {
        countOfWhat();
        countAtItsMost();
        latestFinding();
        eveningsAreNoughtToEleven();
        refusalsOfTextsEventsAndSeenInOrder();
        refusalsOfSheetsInOrder();
        refusalsAheadOfNone();
        refusalsThatAreNoFindings();
        askingChangesNothing();
        digestOfANewObject();
        digestOfOneHookAndThing();
        digestThatWraps();
        digestOfWhatItIsNotOf();
        fiveHundredAndTwelveCalls();
        Document.quotedAll(37, 38);
        Checks.end();
    }

    // ---- 37

    private static final String COUNT = "0 HOOKS, 1 THINGS, 2, 3 bytes of texts, 4 EVENTS, 5 how many are SETTLED, 6 MINUTES of "
            + "the HOLIDAY, 7 SEEN, 8 the number of the latest FINDING (0 before any). BAD.";

    private static void countOfWhat() {
        Case none = Case.of(37, COUNT).outside(0, 0, 8, BAD, "count", 0);
        none.each(Case.row(0, 0, 0, 0, 0, 0, 0, 0, 0), "count").digest();
        // each has a number of its own
        Case c = Case.of(37, COUNT).hooks("hsgh").things("m10;w20;q19").events(LEFT, 0, 0, LEFT, 1, 2);
        c.due(1, "seen", 0, 0, 0).due(2, "seen", 0, 0, 1).due(3, "seen", 1, 1, 0).due(4, "seen", 11, 7, 1);
        c.due(5, "seen", 11, 6, 1).due(-15, "sheet", 0, 0, -1);
        c.outside(0, 0, 8, BAD, "count", 0).each(Case.row(4, 3, 4, 11, 2, 3), "count").due(5, "count", 7);
        c.due(5, "count", 8).digest();
    }

    private static void countAtItsMost() {
        Case c = Case.of(37, COUNT).hooks("ssssssssssss").things(EIGHT);
        for (int i = 0; i < 8; i++) {
            c.events(LEFT, 0, i).due(i + 1, "seen", 11, i, 1);
        }
        // in evening 0 hooks 8 to 11 come first, where four are settled, and four minutes are above every mark; then four
        // are settled, and twenty minutes are the holiday's, as are 24 of each of the eleven other evenings
        c.each(Case.row(12, 8, 12, 31, 8, 8, 284, 8, 0), "count").outside(0, 0, 8, BAD, "count", 0).digest();
        Case none = Case.of(37, COUNT).hooks("ssssssssssss").each(Case.row(12, 0, 12, 0, 0, 0, 288), "count").digest();
        none.due(12, "wipe", 0).each(Case.row(0, 0, 0, 0, 0, 0, 0), "count").digest();
        // with a fault there are bytes, but no hooks and no things
        Case fault = Case.of(37, COUNT).hooks("hhhhhhhhhhhx").things("m10;m10;m10;m10;m10;m10;m10;m1;");
        fault.each(Case.row(0, 0, 12, 31, 0, 0, 0, 0, 0), "count").digest();
    }

    private static void latestFinding() {
        String sentence = "FINDINGS (answers -10 less the number; they change nothing but count() 8): 1 NULL: the SHEET is LOST; "
                + "2 INDEX: there is no such item; 3 CAST: it has another FORM; 4 STORE: unlike FORMS; 5 SIZE: below 0.";
        Case c = Case.of(37, sentence).hooks("hs").things("m31").sheet(0, 0, 1).sheet(1, 1, 2).due(0, "count", 8);
        c.due(-11, "lose", 2).due(1, "count", 8).due(-12, "put", 0, 0, 1, 0).due(2, "count", 8);
        c.due(-13, "put", 0, 1, 0, 0).due(3, "count", 8).due(-14, "copy", 0, 0, 1, 0, 1).due(4, "count", 8);
        c.due(-15, "sheet", 0, 0, -1).due(5, "count", 8);
        // the latest, not the greatest
        c.found(NULL, "read", 3).found(STORE, "copy", 1, 0, 0, 0, 1).found(INDEX, "copy", 0, 0, 0, 0, 2);
        c.found(NULL, "write", 0, 2).found(CAST, "put", 1, 2, 0, 0).foundByGet(INDEX, 1, 1, 1).foundByGet(NULL, 3, 0, 0);
        c.foundByGet(CAST, 1, 0, 9).found(SIZE, "sheet", 3, 2, -1).digest();
        // what is well leaves it
        c.due(1, "put", 0, 0, 0, 3).due(0, "read", 0).due(1, "copy", 0, 0, 0, 0, 1).due(1, "lose", 0).due(5, "count", 8);
        c.due(2, "wipe", 0).due(5, "count", 8);
    }

    private static void eveningsAreNoughtToEleven() {
        Case c = Case.of(37, "EVENINGS are 0 to 11.").hooks("hs").things("m31").sheet(0, 0, 5, 5);
        c.outside(1, 0, 11, BAD, "event", MAID, 0, 0).outside(0, 0, 11, BAD, "seen", 0, 0, 0);
        c.outside(0, 0, 11, BAD, "heat", 0, 0, 0).outside(0, 0, 11, BAD, "said", 0, 0).outside(0, 0, 11, BAD, "at", 0, 0);
        c.outside(0, 0, 11, BAD, "leave", 0, 0).outside(0, 0, 11, BAD, "write", 0, 0);
        // his mother is settled in evening 0 by its three minutes
        for (int e = 0; e < 12; e += 11) {
            c.due(0, "heat", e, 0, 0).due(e == 0 ? 3 : 0, "heat", e, 0, 1).due(e == 0 ? 0 : 8, "said", e, 1);
            c.each(Case.row(3, e == 0 ? 0 : 3, 0, e == 0 ? 1 : 0), "at", e).each(Case.row(0, 1, 34), "leave", e);
            c.due(2, "write", e, 0).items(0, 0, e == 0 ? 0 : 8, e == 0 ? 0 : 8);
        }
        c.due(1, "seen", 0, 0, 1).due(2, "seen", 11, 0, 1).due(1, "event", MAID, 11, 0).due(2, "event", MAID, 0, 0);
        c.due(0, "at", 11, 0).due(0, "at", 0, 0).due(3, "at", 1, 0).due(3, "at", 10, 0).digest();
    }

    private static final String ORDER = "Refusals, the first that fits, in the order told at each act: BAD -2 (a number not as "
            + "told, no such thing), NULL, NOT -3 (as told), FULL -4, other FINDINGS.";

    private static void refusalsOfTextsEventsAndSeenInOrder() {
        // nothing is told: BAD ahead of NOT
        Case none = Case.of(37, ORDER).still(-2, "undo", 2).still(-2, "undo", -1).still(-3, "undo", 0).still(-3, "back");
        none.digest();
        // all is full: BAD ahead of FULL
        Case full = Case.of(37, ORDER).hooks("hhhhhhhhhhhh").things(EIGHT);
        for (int i = 0; i < 8; i++) {
            full.events(LEFT, i, i).due(i + 1, "seen", i, i, 1);
        }
        full.still(-2, "type", 0, 256).still(-2, "type", 1, -1).still(-2, "type", 2, 'h').still(-4, "type", 0, 255);
        full.still(-2, "event", 3, 0, 0).still(-2, "event", 0, 12, 0).still(-2, "event", 0, 0, 12).still(-4, "event", 2, 11, 11);
        full.still(-2, "seen", 12, 0, 0).still(-2, "seen", 0, 8, 0).still(-2, "seen", 0, 0, 2).still(-4, "seen", 11, 7, 1);
        full.digest();
    }

    private static void refusalsOfSheetsInOrder() {
        // sheet 0 of one byte, sheet 1 of one short, sheet 2 lost that had been of ints, sheet 3 lost ever
        Case c = Case.of(37, ORDER).hooks("hs").things("m31").sheet(0, 0, 5).sheet(1, 1, 6).sheet(2, 2, 7).due(1, "lose", 2);
        // BAD ahead of NULL, of CAST, of STORE, of INDEX, of SIZE
        c.still(-2, "sheet", 4, 0, -1).still(-2, "sheet", 0, 3, -1).still(-2, "put", 3, 3, 0, 0).still(-2, "put", 0, 3, 9, 0);
        c.still(Integer.MIN_VALUE, "get", 3, -1, 0).still(Integer.MIN_VALUE, "get", 0, 3, 9).still(-2, "write", 12, 3);
        c.still(-2, "copy", 4, 0, 3, 0, 1).still(-2, "copy", 3, 0, 4, 0, 1).still(-2, "copy", 0, 0, -1, 0, -1);
        c.due(0, "count", 8);
        // NULL ahead of CAST, of STORE, of INDEX
        c.found(NULL, "put", 2, 0, 0, 0).found(NULL, "put", 2, 2, 9, 0).foundByGet(NULL, 2, 0, 9).foundByGet(NULL, 3, 0, -1);
        c.found(NULL, "copy", 2, 0, 0, 0, 1).found(NULL, "copy", 0, 0, 2, 0, 1).found(NULL, "copy", 3, -1, 2, 9, -1);
        // CAST and STORE ahead of INDEX
        c.found(CAST, "put", 0, 1, 1, 0).found(CAST, "put", 1, 2, -1, 0).foundByGet(CAST, 0, 2, 1);
        c.found(STORE, "copy", 0, 0, 1, 0, 2).found(STORE, "copy", 1, -1, 0, 0, 0);
        // alone
        c.found(INDEX, "put", 0, 0, 1, 0).foundByGet(INDEX, 1, 1, 1).found(INDEX, "copy", 0, 0, 0, 0, 2);
        c.found(SIZE, "sheet", 3, 0, -1).digest();
    }

    private static void refusalsAheadOfNone() {
        // there are neither hooks nor things, so what is well told answers NONE
        Case c = Case.of(37, ORDER).still(-2, "swap", 4).still(-1, "swap", 3).still(-2, "leave", 12, 0).still(-2, "leave", 0, 3);
        c.still(-1, "leave", 11, 2).still(-2, "spare", 2).still(-1, "spare", 1).still(-2, "spare", -2).digest();
    }

    private static void refusalsThatAreNoFindings() {
        String sentence = "They change nothing (FINDINGS but count() 8).";
        // count(8) is 0 before any, and what was found last behind one
        for (int finding = 0; finding < 2; finding++) {
            Case c = Case.of(37, sentence);
            if (finding == 1) {
                c.due(-11, "lose", 0);
            }
            c.still(NOT, "undo", 0).still(NOT, "undo", 1).still(NOT, "back").due(finding, "count", 8);
            c.hooks("hhhhhhhhhhhh").things(EIGHT);
            for (int i = 0; i < 8; i++) {
                c.events(LEFT, i, i).due(i + 1, "seen", i, i, 1);
            }
            c.still(FULL, "type", 0, 'h').still(FULL, "type", 1, 'h').still(FULL, "event", 0, 0, 0);
            c.still(FULL, "seen", 0, 0, 0).still(BAD, "type", 2, 0).still(BAD, "wipe", 2).still(BAD, "undo", -1);
            c.still(BAD, "event", 3, 0, 0).still(BAD, "seen", 12, 0, 0).still(BAD, "sheet", 0, 0, 61);
            c.still(BAD, "sheet", 4, 0, -1).still(BAD, "lose", 4).still(BAD, "put", 4, 0, 0, 0).still(BAD, "read", -1);
            c.still(Integer.MIN_VALUE, "get", 0, 3, 0).still(BAD, "copy", 4, 0, 0, 0, 0).still(BAD, "write", 12, 0);
            c.due(finding, "count", 8).digest();
        }
    }

    private static void askingChangesNothing() {
        Case c = Case.of(37, COUNT).hooks("hsgh").things("m31;w20;q90").events(LEFT, 0, 2, FRONT, 1, 0).sheet(0, 1, 5, 6);
        c.due(1, "seen", 11, 0, 1);
        BackHooks like = Checks.told("hsgh", "m31;w20;q90", LEFT, 0, 2, FRONT, 1, 0);
        like.seen(11, 0, 1);
        String[] bare = {"peace", "longest", "sore", "fit", "never", "digest"};
        for (String method : bare) {
            c.still(new Call(method).on(like), method);
        }
        List<Call> asks = new ArrayList<>(List.of(new Call("fault", 0), new Call("hook", 1), new Call("thing", 1, 2),
                new Call("heat", 3, 1, 0), new Call("said", 4, 2), new Call("at", 5, 1), new Call("settled", 2),
                new Call("sum", 3), new Call("highest", 1), new Call("swap", 0), new Call("leave", 2, 0)));
        asks.addAll(List.of(new Call("spare", NONE), new Call("was", 1, 0), new Call("was", 1, 1), new Call("ask", 2),
                new Call("chance", 5, 2, 0), new Call("seasons", 7, 6, 0), new Call("count", 5)));
        for (Call ask : asks) {
            c.still(ask.on(like), ask.method(), ask.numbers());
        }
        c.digest();
    }

    // ---- 38

    private static final String DIGEST = "h is 17; h becomes 31 h and each of: count() 0 to 7; of texts fault(); of HOOKS "
            + "hook(), said(0, it), said(3, it), said(11, it); of EVENINGS 0 to 11 at() 0 to 3, leave() 0 to 2; of THINGS";

    /** One after the other. */
    private static long[] join(long[]... rows) {
        return Arrays.stream(rows).flatMapToLong(Arrays::stream).toArray();
    }

    private static long[] times(int n, long... row) {
        long[][] rows = new long[n][];
        Arrays.fill(rows, row);
        return join(rows);
    }

    private static void digestOfANewObject() {
        long[] counts = times(8, 0);
        long[] faults = {NONE, NONE};
        long[] evenings = times(12, 0, 0, 0, 0, NONE, NONE, NONE);
        // sum() 0 to 3, peace(), longest(), sore(), swap() 0 to 3, fit(), spare(NONE), spare(0), never(), seasons()
        long[] rest = {0, 0, 0, 0, 0, NONE, 0, NONE, NONE, NONE, NONE, 0, 0, NONE, 0, 0, 0};
        long want = Fold.of(join(counts, faults, evenings, rest));
        Case.of(38, DIGEST).still(want, "digest").still(want, "digest");
        // all is undone, so it is that of a new one
        Case undone = Case.of(38, DIGEST).hooks("h").things("m").events(0, 0, 0).due(1, "seen", 0, 0, 0);
        undone.due(0, "undo", 0).due(1, "wipe", 1).due(0, "back").due(1, "forget").still(want, "digest");
    }

    private static void digestOfOneHookAndThing() {
        // one hook, and his mother at 2: 2, 1, 2, 1 as it is; by one minute more in evening e she is settled in it
        long[] counts = {1, 1, 1, 3, 0, 0, 0, 0};
        long[] faults = {NONE, NONE};
        long[] hook = {1, 0, 0, 0};
        long[] evenings = new long[0];
        for (int e = 0; e < 12; e++) {
            evenings = join(evenings, new long[] {1, 0, 0, 0, 0, 1, 11 - e});
        }
        // thing(), heat() behind 0, 4, 11, settled(), highest(), was() 0 and 1, ask(), chance() above and below: nothing is
        // seen, so every heat and sort may be; by 1 she is settled in evening 0, by all others never
        long[] thing = {0, 2, 0, 1, 1, 1, 1, 1, 1, NONE, 0, 1022, 7, 0, 0, 1};
        // by seed 7 the six are m68;m63;m35;w91;q87;w24: a minute an evening is too few for the first
        long[] rest = {0, 12, 0, 0, NONE, 0, 1, NONE, NONE, NONE, NONE, NONE, NONE, NONE, 0, 0, 0};
        long want = Fold.of(join(counts, faults, hook, evenings, thing, rest));
        Case.of(38, DIGEST).hooks("h").things("m20").still(want, "digest").digest();
    }

    private static void digestThatWraps() {
        // told by the run of calls that came with the document
        Case c = Case.of(38, "as longs that wrap.").hooks("hhh").things("m41;w52;q60").events(FRONT, 0, 0, LEFT, 1, 2);
        c.still(-1931930063835833202L, "digest");
        Case most = Case.of(38, "as longs that wrap.").hooks("ssssssssssss").things("m99;w90;q99;m98;w91;q90;m97;w92");
        for (int i = 0; i < 8; i++) {
            most.events(i % 3, i, 11 - i).due(i + 1, "seen", 11, i, i % 2);
        }
        most.digest();
    }

    private static void digestOfWhatItIsNotOf() {
        Case bare = Case.of(38, DIGEST).hooks("hsg").things("m31;w20").events(MAID, 0, 0).digest();
        // sheets, findings and refusals are not in it
        Case c = Case.of(38, DIGEST).hooks("hsg").things("m31;w20").events(MAID, 0, 0).sheet(0, 2, 1, 2, 3);
        c.due(-11, "lose", 3).due(BAD, "hook", 3).due(3, "lose", 0).isLike(bare);
        // nor is the number of a maid, nor which bytes come behind a fault
        Case maid = Case.of(38, DIGEST).hooks("hsg").things("m31;w20").events(MAID, 0, 11).isLike(bare);
        maid.hooks("x?");
        bare.hooks("?x").isLike(maid);
    }

    // ---- what it is

    private static void fiveHundredAndTwelveCalls() {
        Case c = Case.of(38, "An object is used for at most 512 calls after it has been made");
        c.hooks("hsghsghsghsg").things("m19;w93;q97;m52;w65;q44;w37;m80");
        for (int i = 0; i < 8; i++) {
            c.events(i % 3, i, i).due(i + 1, "seen", i, i, 0);
        }
        for (int i = 0; i < 113; i++) {
            c.due(7, "back").due(8, "event", i % 3, i % 12, 11 - i % 12).due(i % 61, "sheet", i % 4, i % 3, i % 61);
            c.due(0, "count", 8);
        }
        // 12 and 31 bytes, 8 events, 8 seen, 452 more: the 512th is answered as any other
        c.digest();
        // what later calls answer is free, but they must not throw
        BackHooks x = Checks.told("hsghsghsghsg", "m19;w93;q97;m52;w65;q44;w37;m80");
        for (int i = 0; i < 5000; i++) {
            x.type(i % 2, i % 256);
            x.event(i % 3, i % 12, i % 12);
            x.seen(i % 12, i % 8, i % 2);
            x.count(i % 9);
        }
        x.digest();
    }
}
