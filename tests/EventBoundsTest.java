/** Promises 8 to 10 at their bounds, sentence by sentence: events told, undone and read. */
public final class EventBoundsTest {
    private static final int NONE = BackHooks.NONE, BAD = BackHooks.BAD, NOT = BackHooks.NOT, FULL = BackHooks.FULL;
    private static final int MAID = 0, FRONT = 1, LEFT = 2;
    private static final int NULL_FINDING = 1;

    public static void main(String[] args) {
        numbersOfAnEvent();
        eightAndANinth();
        whateverNumberIsTold();
        leftWhereThereIsNone();
        back();
        readOfWhatSheet();
        readWholeOnes();
        readAsLongAsEachMayBe();
        readToTheEighth();
        readOfEachForm();
        Document.quotedAll(8, 10);
        Checks.end();
    }

    // ---- 8

    private static void numbersOfAnEvent() {
        String sentence = "a kind, an EVENING, a number 0 to 11";
        for (int kind = 0; kind < 3; kind++) {
            Case c = Case.of(8, sentence).hooks("hhhhhhhhhhhh").things("m55;q20");
            c.outside(1, 0, 11, BAD, "event", kind, 0, 0).outside(2, 0, 11, BAD, "event", kind, 0, 0);
            c.due(0, "count", 4);
            c.due(1, "event", kind, 0, 0).due(2, "event", kind, 11, 11).due(3, "event", kind, 0, 11);
            c.due(4, "event", kind, 11, 0).digest();
            c.outside(1, 0, 11, BAD, "event", kind, 0, 12).due(4, "count", 4);
        }
        Case kinds = Case.of(8, "An EVENT more: how many. BAD; FULL.").hooks("hs").things("q31");
        kinds.outside(0, 0, 2, BAD, "event", 0, 0, 0).outside(0, 0, 2, BAD, "event", 0, 12, -1);
        kinds.due(1, "event", 0, 1, 1).due(2, "event", 2, 0, 1).digest();
        kinds.outside(0, 0, 2, BAD, "event", 0, 0, 0).due(2, "count", 4);
    }

    private static void eightAndANinth() {
        Case c = Case.of(8, "EVENTS, 8 at most (0 on)").hooks("hsg").things("m61;w40;q92");
        c.due(0, "count", 4).digest();
        c.events(LEFT, 0, 0, LEFT, 0, 1, LEFT, 0, 2, MAID, 1, 0, FRONT, 2, 0, MAID, 3, 0, FRONT, 3, 0);
        c.due(7, "count", 4).digest().due(8, "event", LEFT, 11, 2).due(8, "count", 4).digest();
        for (int kind = 0; kind < 3; kind++) {
            c.still(FULL, "event", kind, 0, 0).still(FULL, "event", kind, 11, 11);
        }
        // two refusals at once: what is wrong is told ahead of what is full
        c.outside(0, 0, 2, BAD, "event", 0, 0, 0).outside(1, 0, 11, BAD, "event", 0, 0, 0);
        c.outside(2, 0, 11, BAD, "event", 0, 0, 0);
        c.due(7, "back").due(8, "event", MAID, 11, 0).still(FULL, "event", MAID, 11, 0).digest();
    }

    private static void whateverNumberIsTold() {
        String sentence = "(both whatever number is told)";
        for (int kind = MAID; kind <= FRONT; kind++) {
            for (int evening = 0; evening < 12; evening += 11) {
                Case first = Case.of(8, sentence).hooks("hs").things("m31;q20").events(kind, evening, 0);
                first.each(Case.row(0, 0, 0, 0), "at", evening).due(NONE, "said", evening, 0);
                Case last = Case.of(8, sentence).hooks("hs").things("m31;q20").events(kind, evening, 11);
                last.each(Case.row(0, 0, 0, 0), "at", evening).due(NONE, "said", evening, 1).isLike(first);
            }
        }
    }

    private static void leftWhereThereIsNone() {
        String sentence = "2 that HOOK is LEFT in it (nothing, where there is none).";
        Case c = Case.of(8, sentence).hooks("hh").things("m91").events(LEFT, 0, 2, LEFT, 0, 11);
        c.each(Case.row(2, 0, 0, 0), "at", 0).due(7, "heat", 0, 0, 0).digest();
        // it is told, so it is left as soon as there is such a hook: it takes a minute, too high for his mother
        c.due(3, "type", 0, 'g').each(Case.row(3, 0, 1, 0), "at", 0).due(9, "said", 0, 2).digest();
        c.due(2, "undo", 0).each(Case.row(2, 0, 0, 0), "at", 0);
        Case edge = Case.of(8, sentence).hooks("hh").things("m91").events(LEFT, 0, 1);
        edge.each(Case.row(3, 0, 0, 0), "at", 0).due(6, "heat", 0, 0, 0).digest();
        Case none = Case.of(8, sentence).things("m91").events(LEFT, 0, 0, LEFT, 11, 11);
        none.each(Case.row(0, 0, 0, 0), "at", 0).each(Case.row(0, 0, 0, 0), "at", 11).due(0, "sum", 1).digest();
        Case top = Case.of(8, sentence).hooks("gggggggggggg").things("w19").events(LEFT, 11, 11);
        top.each(Case.row(1, 0, 0, 0), "at", 11).due(0, "said", 11, 11).due(8, "heat", 11, 0, 0).digest();
    }

    // ---- 9

    private static void back() {
        String sentence = "The last EVENT is undone: how many are left. NOT: there is none.";
        Case c = Case.of(9, sentence).hooks("hs").things("m51;q20").still(NOT, "back").digest();
        c.events(MAID, 0, 0).due(0, "back").still(NOT, "back");
        c.isLike(Case.of(9, sentence).hooks("hs").things("m51;q20"));
        c.events(MAID, 0, 0, FRONT, 0, 0, LEFT, 0, 1, LEFT, 1, 0, MAID, 2, 0, FRONT, 3, 0, MAID, 11, 0, FRONT, 11, 0);
        for (int left = 7; left >= 1; left--) {
            c.due(left, "back").due(left, "count", 4).digest();
        }
        // the maid, who was told first, is the one that is left
        c.isLike(Case.of(9, sentence).hooks("hs").things("m51;q20").events(MAID, 0, 5));
        c.due(0, "back").still(NOT, "back").due(0, "count", 4);
    }

    // ---- 10

    private static final String READ = "EVENTS from a SHEET: its items, three for each, as many as are whole, "
            + "as long as each may be: how many. BAD; NULL.";

    private static void readOfWhatSheet() {
        Case c = Case.of(10, READ).hooks("hs").things("m31").outside(0, 0, 3, BAD, "read", 0);
        for (int s = 0; s < 4; s++) {
            c.found(NULL_FINDING, "read", s);
        }
        c.outside(0, 0, 3, BAD, "read", 0);
        c.sheet(0, 0, MAID, 0, 0).sheet(3, 0, FRONT, 1, 0).due(1, "read", 0).due(1, "read", 3).due(2, "count", 4);
        c.each(Case.row(0, 0, 0, 0), "at", 0).each(Case.row(0, 0, 0, 0), "at", 1).digest();
        c.due(3, "lose", 0).found(NULL_FINDING, "read", 0);
    }

    private static void readWholeOnes() {
        int[] sizes = {0, 1, 2, 3, 4, 5, 6, 23, 24, 25, 60};
        int[] wants = {0, 0, 0, 1, 1, 1, 2, 7, 8, 8, 8};
        for (int i = 0; i < sizes.length; i++) {
            // items are 0 at first, so each three of them are a maid in evening 0
            Case c = Case.of(10, READ).hooks("hs").things("m31;q20").due(sizes[i], "sheet", 2, i % 3, sizes[i]);
            c.due(wants[i], "read", 2).due(wants[i], "count", 4).due(0, "count", 8).digest();
            c.due(sizes[i], "lose", 2);
        }
    }

    private static void readAsLongAsEachMayBe() {
        int[][] wrong = {{-1, 0, 0}, {3, 0, 0}, {0, -1, 0}, {0, 12, 0}, {0, 0, -1}, {0, 0, 12}, {1, 0, 12}, {2, 0, 12},
            {Integer.MIN_VALUE, 0, 0}, {0, Integer.MAX_VALUE, 0}, {2, 0, Integer.MIN_VALUE}, {256, 0, 0}, {0, 65536, 0}};
        for (int[] w : wrong) {
            Case first = Case.of(10, READ).hooks("hs").things("m31").sheet(1, 2, w[0], w[1], w[2], MAID, 0, 0);
            first.due(0, "read", 1).due(0, "count", 4).digest();
            Case middle = Case.of(10, READ).hooks("hs").things("m31");
            middle.sheet(1, 2, FRONT, 11, 11, w[0], w[1], w[2], MAID, 0, 0).due(1, "read", 1).due(1, "count", 4);
            middle.each(Case.row(0, 0, 0, 0), "at", 11).each(Case.row(3, 0, 0, 1), "at", 0).due(0, "count", 8).digest();
            middle.items(1, 2, FRONT, 11, 11, w[0], w[1], w[2], MAID, 0, 0);
        }
    }

    private static void readToTheEighth() {
        for (int there = 0; there <= 8; there++) {
            Case c = Case.of(10, READ).hooks("hs").things("m31;q20");
            for (int i = 0; i < there; i++) {
                c.events(LEFT, i, 1);
            }
            c.due(60, "sheet", 0, 1, 60).due(8 - there, "read", 0).due(8, "count", 4).digest();
            c.still(0, "read", 0).still(FULL, "event", 0, 0, 0);
            // those that were there come first, and the last that came is undone first
            for (int left = 7; left >= there; left--) {
                c.due(left, "back");
            }
            c.due(there == 0 ? 3 : 4, "at", 0, 0);
        }
    }

    private static void readOfEachForm() {
        for (int form = 0; form < 3; form++) {
            Case c = Case.of(10, READ).hooks("hsg").things("q90").sheet(3, form, LEFT, 11, 2, FRONT, 0, 11, MAID, 5, 0);
            c.due(3, "read", 3).due(9, "heat", 0, 0, 0).each(Case.row(0, 0, 0, 0), "at", 0).due(0, "at", 5, 0);
            c.items(3, form, LEFT, 11, 2, FRONT, 0, 11, MAID, 5, 0).digest();
        }
        // what a byte and a short keep of 256 and of 65536 is a maid in evening 0; an int keeps all of it
        int[] came = {2, 1, 0};
        for (int form = 0; form < 3; form++) {
            Case c = Case.of(10, READ).hooks("hsg").things("q90").sheet(0, form, 65536, 65536, 65536, 256, 256, 256);
            c.due(came[form], "read", 0).due(came[form], "count", 4).due(came[form] == 0 ? 3 : 0, "at", 0, 0).digest();
        }
    }
}
