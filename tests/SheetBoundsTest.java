/** Promises 31 to 36 at their bounds, sentence by sentence: sheets, and what is written to them. */
public final class SheetBoundsTest {
    private static final int NONE = BackHooks.NONE, BAD = BackHooks.BAD;
    private static final int LEAST = Integer.MIN_VALUE, MOST = Integer.MAX_VALUE;
    private static final int NULL = 1, INDEX = 2, CAST = 3, STORE = 4, SIZE = 5;
    private static final int MAID = 0, FRONT = 1, LEFT = 2;

    public static void main(String[] args) {
        lostAtFirst();
        sizes();
        noSuchSheetOrForm();
        belowZero();
        aNewRow();
        lose();
        putAndGetOfWhat();
        itemsThatThereAreNot();
        anotherForm();
        lowestBitsOfBytes();
        lowestBitsOfShorts();
        allBitsOfInts();
        theLeastIntAsAnItem();
        copyOfWhat();
        copyRefusedInOrder();
        copyNotSoMany();
        copyOntoTheSame();
        copyOfSizes();
        writeOfWhat();
        writeAsManyAsThereAre();
        writeWhatWasSaid();
        Document.quotedAll(31, 36);
        Checks.end();
    }

    private static Case told(int promise, String sentence) {
        return Case.of(promise, sentence).hooks("hs").things("m31;q20").events(LEFT, 0, 1);
    }

    // ---- 31

    private static final String SHEETS = "SHEETS 0 .. 3 are LOST (at first) or a row of a FORM: 0 bytes, 1 shorts, 2 ints, of "
            + "0 to 60 items (0 at first).";

    private static void lostAtFirst() {
        Case c = told(31, SHEETS);
        for (int s = 0; s < 4; s++) {
            c.found(NULL, "lose", s).foundByGet(NULL, s, 0, 0).found(NULL, "put", s, 2, 0, 1);
        }
        c.digest();
    }

    private static void sizes() {
        int[] sizes = {0, 1, 2, 59, 60};
        for (int form = 0; form < 3; form++) {
            for (int n : sizes) {
                Case c = told(31, SHEETS).due(n, "sheet", 0, form, n).due(n, "sheet", 3, form, n);
                for (int i = 0; i < n; i++) {
                    c.due(0, "get", 3, form, i);
                }
                c.foundByGet(INDEX, 3, form, n).foundByGet(INDEX, 3, form, -1).found(NULL, "lose", 1).digest();
            }
        }
    }

    private static final String SHEET = "A SHEET is a new row of a FORM with n items: n. BAD: SHEET, FORM, above 60; SIZE.";

    private static void noSuchSheetOrForm() {
        Case c = told(31, SHEET).sheet(0, 1, 5, 6);
        c.outside(0, 0, 3, BAD, "sheet", 0, 0, 1).outside(1, 0, 2, BAD, "sheet", 0, 0, 1);
        c.still(BAD, "sheet", 0, 0, 61).still(BAD, "sheet", 0, 0, 62).still(BAD, "sheet", 0, 0, MOST);
        // two at once: what is BAD is told ahead of SIZE, and is no finding
        c.outside(0, 0, 3, BAD, "sheet", 0, 0, -1).outside(1, 0, 2, BAD, "sheet", 0, 0, LEAST);
        c.outside(0, 0, 3, BAD, "sheet", 0, 3, 61).due(0, "count", 8);
        c.items(0, 1, 5, 6).found(NULL, "lose", 1).digest();
    }

    private static void belowZero() {
        Case c = told(31, "5 SIZE: below 0.").sheet(0, 1, 5, 6);
        c.found(SIZE, "sheet", 0, 0, -1).found(SIZE, "sheet", 0, 1, LEAST).found(SIZE, "sheet", 3, 2, -61);
        c.items(0, 1, 5, 6).due(5, "count", 8).found(NULL, "lose", 3).due(0, "sheet", 0, 0, 0).digest();
    }

    private static void aNewRow() {
        Case c = told(31, SHEET).sheet(2, 0, 1, 2, 3).due(3, "sheet", 2, 0, 3).items(2, 0, 0, 0, 0);
        // smaller, then larger again: nothing of the old one is left
        c.sheet(2, 2, 7, 8, 9).due(1, "sheet", 2, 2, 1).items(2, 2, 0).foundByGet(INDEX, 2, 2, 1);
        c.due(3, "sheet", 2, 2, 3).items(2, 2, 0, 0, 0);
        // of another form
        c.due(2, "sheet", 2, 1, 2).foundByGet(CAST, 2, 2, 0).items(2, 1, 0, 0);
        // lost, and new
        c.sheet(2, 1, 4, 5).due(2, "lose", 2).due(2, "sheet", 2, 1, 2).items(2, 1, 0, 0).digest();
        // the others stay
        Case others = told(31, SHEET).sheet(0, 0, 1).sheet(1, 1, 2).sheet(2, 2, 3).sheet(3, 0, 4);
        others.due(60, "sheet", 1, 2, 60).items(0, 0, 1).items(2, 2, 3).items(3, 0, 4).digest();
    }

    // ---- 32

    private static void lose() {
        String sentence = "It is LOST: how many items it had. BAD; NULL.";
        Case c = told(32, sentence).outside(0, 0, 3, BAD, "lose", 0);
        for (int s = 0; s < 4; s++) {
            c.found(NULL, "lose", s);
        }
        int[] sizes = {0, 1, 60};
        for (int n : sizes) {
            c.due(n, "sheet", 0, 2, n).due(1, "sheet", 3, 0, 1).due(n, "lose", 0).found(NULL, "lose", 0);
            c.foundByGet(NULL, 0, 2, 0).due(0, "get", 3, 0, 0).due(1, "lose", 3).found(NULL, "lose", 3);
        }
        c.outside(0, 0, 3, BAD, "lose", 0).due(1, "count", 8).digest();
    }

    // ---- 33, 34

    private static final String PUT = "Item i, treated as of a FORM, becomes v (the lowest bits that it has): 1. BAD; NULL; "
            + "CAST; INDEX.";
    private static final String GET = "Item i of it. BAD: the least int; so are NULL, CAST, INDEX (count() 8 tells).";

    private static void putAndGetOfWhat() {
        Case put = told(33, PUT).sheet(0, 0, 5).outside(0, 0, 3, BAD, "put", 0, 0, 0, 9);
        put.outside(1, 0, 2, BAD, "put", 0, 0, 0, 9);
        // BAD ahead of NULL, of CAST, of INDEX
        put.outside(1, 0, 2, BAD, "put", 1, 0, 0, 9).outside(1, 0, 2, BAD, "put", 0, 0, 1, 9);
        put.outside(0, 0, 3, BAD, "put", 0, 2, -1, 9).items(0, 0, 5).digest();
        Case get = told(34, GET).sheet(0, 0, 5).outside(0, 0, 3, LEAST, "get", 0, 0, 0);
        get.outside(1, 0, 2, LEAST, "get", 0, 0, 0).outside(1, 0, 2, LEAST, "get", 1, 0, 0);
        get.outside(0, 0, 3, LEAST, "get", 0, 2, -1).due(0, "count", 8).still(5, "get", 0, 0, 0).digest();
    }

    private static void itemsThatThereAreNot() {
        int[] sizes = {0, 1, 60};
        for (int form = 0; form < 3; form++) {
            for (int n : sizes) {
                Case c = told(33, "2 INDEX: there is no such item").due(n, "sheet", 1, form, n);
                int[] none = {-1, n, n + 1, LEAST, MOST};
                for (int i : none) {
                    c.found(INDEX, "put", 1, form, i, 7).foundByGet(INDEX, 1, form, i);
                }
                if (n > 0) {
                    c.due(1, "put", 1, form, 0, 7).due(7, "get", 1, form, 0);
                    c.due(1, "put", 1, form, n - 1, 8).due(8, "get", 1, form, n - 1);
                }
                c.digest();
            }
        }
    }

    private static void anotherForm() {
        for (int form = 0; form < 3; form++) {
            Case c = told(33, "3 CAST: it has another FORM").sheet(2, form, 5);
            for (int as = 0; as < 3; as++) {
                if (as != form) {
                    c.found(CAST, "put", 2, as, 0, 9).foundByGet(CAST, 2, as, 0);
                    // CAST ahead of INDEX
                    c.found(CAST, "put", 2, as, 1, 9).foundByGet(CAST, 2, as, -1);
                }
            }
            c.still(5, "get", 2, form, 0).digest();
            // NULL ahead of CAST and of INDEX: it is lost, whatever it was of
            c.due(1, "lose", 2);
            for (int as = 0; as < 3; as++) {
                c.found(NULL, "put", 2, as, 0, 9).found(NULL, "put", 2, as, -1, 9).foundByGet(NULL, 2, as, 60);
            }
            c.digest();
        }
    }

    private static void lowestBitsOfBytes() {
        Case c = told(33, PUT).due(1, "sheet", 0, 0, 1);
        int[] told = {127, 128, 255, 256, 257, -1, -128, -129, -256, 32767, 32768, 65535, LEAST, MOST, 0x12345680};
        int[] kept = {127, -128, -1, 0, 1, -1, -128, 127, 0, -1, 0, -1, 0, -1, -128};
        for (int i = 0; i < told.length; i++) {
            c.due(1, "put", 0, 0, 0, told[i]).still(kept[i], "get", 0, 0, 0);
        }
        c.digest();
    }

    private static void lowestBitsOfShorts() {
        Case c = told(33, PUT).due(1, "sheet", 0, 1, 1);
        int[] told = {255, 256, 32767, 32768, 65535, 65536, 65537, -1, -32768, -32769, -65536, LEAST, MOST, 0x12348000};
        int[] kept = {255, 256, 32767, -32768, -1, 0, 1, -1, -32768, 32767, 0, 0, -1, -32768};
        for (int i = 0; i < told.length; i++) {
            c.due(1, "put", 0, 1, 0, told[i]).still(kept[i], "get", 0, 1, 0);
        }
        c.digest();
    }

    private static void allBitsOfInts() {
        Case c = told(33, PUT).due(1, "sheet", 0, 2, 1);
        int[] told = {0, -1, 255, 65536, -65536, MOST, MOST - 1, LEAST + 1, 0x12345678};
        for (int v : told) {
            c.due(1, "put", 0, 2, 0, v).still(v, "get", 0, 2, 0);
        }
        c.digest();
    }

    private static void theLeastIntAsAnItem() {
        // the answer is that of a refusal, but nothing is found
        Case c = told(34, GET).sheet(0, 2, LEAST, 5).still(LEAST, "get", 0, 2, 0).due(0, "count", 8);
        c.foundByGet(INDEX, 0, 2, 2).still(LEAST, "get", 0, 2, 0).still(5, "get", 0, 2, 1).due(2, "count", 8);
        c.foundByGet(CAST, 0, 0, 0).foundByGet(NULL, 1, 0, 0).still(LEAST, "get", 4, 0, 0).due(1, "count", 8).digest();
    }

    // ---- 35

    private static final String COPY = "n items of SHEET s, from i on, come to SHEET t (perhaps s, as they were), from j on: 1. "
            + "BAD: the SHEETS; NULL: s, t; STORE; INDEX: below 0, not so many.";

    private static void copyOfWhat() {
        Case c = told(35, COPY).sheet(0, 0, 1, 2).sheet(3, 0, 3, 4);
        c.outside(0, 0, 3, BAD, "copy", 0, 0, 3, 0, 1).outside(2, 0, 3, BAD, "copy", 0, 0, 3, 0, 1);
        c.found(NULL, "copy", 1, 0, 0, 0, 1).found(NULL, "copy", 0, 0, 1, 0, 1).found(NULL, "copy", 1, 0, 2, 0, 1);
        c.found(NULL, "copy", 1, 0, 1, 0, 0).due(1, "copy", 3, 0, 0, 1, 1).items(0, 0, 1, 3).items(3, 0, 3, 4).digest();
    }

    private static void copyRefusedInOrder() {
        Case c = told(35, COPY).sheet(0, 0, 1, 2).sheet(3, 2, 3, 4);
        // BAD ahead of NULL, of STORE, of INDEX
        c.outside(0, 0, 3, BAD, "copy", 0, 0, 1, 0, 1).outside(2, 0, 3, BAD, "copy", 1, -1, 0, -1, -1);
        c.outside(2, 0, 3, BAD, "copy", 0, 3, 0, 3, 3);
        // NULL ahead of STORE and of INDEX: what is lost had another form
        c.sheet(1, 1, 9).due(1, "lose", 1).found(NULL, "copy", 0, 0, 1, 0, 1).found(NULL, "copy", 1, -1, 3, 0, 1);
        c.found(NULL, "copy", 0, 0, 2, 0, LEAST);
        // STORE ahead of INDEX, and for no items too
        c.found(STORE, "copy", 0, 0, 3, 0, 1).found(STORE, "copy", 3, 0, 0, 0, 0).found(STORE, "copy", 0, -1, 3, 5, 9);
        c.found(STORE, "copy", 0, 0, 3, 0, LEAST).items(0, 0, 1, 2).items(3, 2, 3, 4).digest();
        for (int form = 0; form < 3; form++) {
            for (int other = 0; other < 3; other++) {
                Case pair = told(35, "4 STORE: unlike FORMS").sheet(0, form, 1).sheet(1, other, 2);
                if (form == other) {
                    pair.due(1, "copy", 0, 0, 1, 0, 1).items(1, other, 1);
                } else {
                    pair.found(STORE, "copy", 0, 0, 1, 0, 1).items(1, other, 2);
                }
                pair.digest();
            }
        }
    }

    private static void copyNotSoMany() {
        Case c = told(35, COPY).sheet(0, 1, 1, 2, 3).sheet(1, 1, 7, 8);
        int[][] none = {{-1, 0, 1}, {0, -1, 1}, {0, 0, -1}, {0, 0, 3}, {2, 0, 2}, {1, 1, 2}, {3, 0, 1}, {0, 2, 1},
            {4, 0, 0}, {0, 3, 0}, {-1, 0, 0}, {0, -1, 0}, {LEAST, 0, 0}, {0, LEAST, 0}, {0, 0, LEAST}, {MOST, 0, 1},
            {1, 0, MOST}, {0, 1, MOST}, {0, MOST, 1}, {MOST, MOST, MOST}, {LEAST, LEAST, LEAST}, {MOST, 0, LEAST},
            {3, 2, -1}};
        for (int[] r : none) {
            c.found(INDEX, "copy", 0, r[0], 1, r[1], r[2]);
        }
        c.items(0, 1, 1, 2, 3).items(1, 1, 7, 8).digest();
        // all that there is, and none behind the end
        c.due(1, "copy", 0, 1, 1, 0, 2).items(1, 1, 2, 3).due(1, "copy", 0, 3, 1, 2, 0).due(1, "copy", 1, 0, 0, 0, 0);
        c.due(1, "copy", 1, 0, 0, 1, 2).items(0, 1, 1, 2, 3).due(2, "count", 8).digest();
    }

    private static void copyOntoTheSame() {
        for (int form = 0; form < 3; form++) {
            Case up = told(35, COPY).sheet(2, form, 1, 2, 3, 4, 5).due(1, "copy", 2, 0, 2, 1, 4);
            up.items(2, form, 1, 1, 2, 3, 4).digest();
            Case down = told(35, COPY).sheet(2, form, 1, 2, 3, 4, 5).due(1, "copy", 2, 1, 2, 0, 4);
            down.items(2, form, 2, 3, 4, 5, 5).digest();
            Case two = told(35, COPY).sheet(2, form, 1, 2, 3, 4, 5).due(1, "copy", 2, 0, 2, 2, 3);
            two.items(2, form, 1, 2, 1, 2, 3).digest();
            Case whole = told(35, COPY).sheet(2, form, 1, 2, 3).still(1, "copy", 2, 0, 2, 0, 3);
            whole.still(1, "copy", 2, 3, 2, 3, 0).found(INDEX, "copy", 2, 0, 2, 1, 3).items(2, form, 1, 2, 3).digest();
        }
    }

    private static void copyOfSizes() {
        Case none = told(35, COPY).due(0, "sheet", 0, 2, 0).due(0, "sheet", 1, 2, 0).still(1, "copy", 0, 0, 1, 0, 0);
        none.still(1, "copy", 0, 0, 0, 0, 0).found(INDEX, "copy", 0, 0, 1, 0, 1).found(INDEX, "copy", 0, 1, 1, 0, 0);
        none.digest();
        Case one = told(35, COPY).sheet(0, 2, LEAST).sheet(1, 2, 5).due(1, "copy", 0, 0, 1, 0, 1).items(1, 2, LEAST);
        one.digest();
        Case sixty = told(35, COPY).due(60, "sheet", 0, 0, 60).due(60, "sheet", 1, 0, 60);
        sixty.due(1, "put", 0, 0, 0, 1).due(1, "put", 0, 0, 59, 2).found(INDEX, "copy", 0, 0, 1, 0, 61);
        sixty.found(INDEX, "copy", 0, 59, 1, 0, 2).due(1, "copy", 0, 0, 1, 0, 60).due(1, "get", 1, 0, 0);
        sixty.due(2, "get", 1, 0, 59).due(1, "copy", 0, 0, 0, 1, 59).due(1, "get", 0, 0, 1).due(0, "get", 0, 0, 59);
        sixty.due(1, "copy", 1, 59, 0, 0, 1).due(2, "get", 0, 0, 0).digest();
    }

    // ---- 36

    private static final String WRITE = "What was said last at HOOKS 0 on in an EVENING (as said() tells) comes to a SHEET from "
            + "item 0 on, as many as there are items, and HOOKS: how many. BAD; NULL.";

    private static void writeOfWhat() {
        Case c = told(36, WRITE).sheet(0, 0, 5, 5).outside(0, 0, 11, BAD, "write", 0, 0).outside(1, 0, 3, BAD, "write", 0, 0);
        // BAD ahead of NULL
        c.outside(0, 0, 11, BAD, "write", 0, 1).due(0, "count", 8);
        c.found(NULL, "write", 0, 1).found(NULL, "write", 11, 3).items(0, 0, 5, 5).digest();
        Case none = Case.of(36, WRITE).outside(0, 0, 11, BAD, "write", 0, 0).found(NULL, "write", 0, 0);
        none.due(60, "sheet", 0, 0, 60).still(0, "write", 0, 0).still(0, "write", 11, 0).digest();
    }

    private static void writeAsManyAsThereAre() {
        int[] hooks = {0, 1, 2, 11, 12};
        int[] sizes = {0, 1, 2, 11, 12, 13, 60};
        for (int k : hooks) {
            for (int n : sizes) {
                Case c = Case.of(36, WRITE).hooks("hhhhhhhhhhhh".substring(0, k)).due(n, "sheet", 1, 1, n);
                for (int i = 0; i < n; i++) {
                    c.due(1, "put", 1, 1, i, 300);
                }
                c.due(Math.min(k, n), "write", 11, 1);
                for (int i = 0; i < n; i++) {
                    c.due(i < k ? 8 : 300, "get", 1, 1, i);
                }
                c.due(n, "lose", 1).digest();
            }
        }
    }

    private static void writeWhatWasSaid() {
        for (int form = 0; form < 3; form++) {
            Case c = Case.of(36, WRITE).hooks("hghh").things("m10;w13").events(MAID, 1, 0, FRONT, 11, 0);
            c.sheet(3, form, 5, 5, 5, 5, 5).due(4, "write", 0, 3).items(3, form, 0, NONE, 9, 1, 5);
            c.due(4, "write", 1, 3).items(3, form, NONE, NONE, NONE, NONE, 5).digest();
            c.due(4, "write", 10, 3).items(3, form, 8, NONE, 8, 8, 5);
            c.due(4, "write", 11, 3).items(3, form, NONE, NONE, NONE, NONE, 5).digest();
        }
        // all hooks gone
        Case gone = Case.of(36, WRITE).hooks("gg").things("m10").sheet(0, 0, 5, 5, 5).due(2, "write", 0, 0);
        gone.items(0, 0, NONE, NONE, 5).digest();
    }
}
