/** Promises 1 to 7 at their bounds, sentence by sentence: a new object, the two texts, hooks, things. */
public final class TextBoundsTest {
    private static final int NONE = BackHooks.NONE, BAD = BackHooks.BAD, NOT = BackHooks.NOT, FULL = BackHooks.FULL;
    private static final int NULL_FINDING = 1;
    private static final String FULL_HOOKS = "hsghsghsghsg";
    private static final String FULL_THINGS = "m10;w21;q32;m43;w54;q65;m76;w99";

    public static void main(String[] args) {
        newObject();
        objectsApart();
        byteBounds();
        noSuchText();
        twelveBytes();
        thirtyOneBytes();
        fullOfFaults();
        wipe();
        undo();
        emptyIsWell();
        everyByteOfHooks();
        everyByteOfThings();
        firstMiddleAndEnd();
        notEnded();
        noNinthThing();
        faultOfHooksIsAsEmpty();
        faultOfThingsIsAsEmpty();
        hook();
        thing();
        Document.quotedAll(1, 7);
        Checks.end();
    }

    // ---- 1

    private static void newObject() {
        Case c = Case.of(1, "No HOOKS, no THINGS, no EVENTS; all SHEETS are LOST.");
        c.each(Case.row(0, 0, 0, 0, 0, 0, 0, 0, 0), "count");
        c.due(NONE, "fault", 0).due(NONE, "fault", 1);
        c.still(BAD, "hook", 0).still(BAD, "thing", 0, 0).still(BAD, "said", 0, 0).still(BAD, "heat", 0, 0, 0);
        c.still(NOT, "undo", 0).still(NOT, "undo", 1).still(NOT, "back").still(0, "forget").still(0, "wipe", 0);
        for (int s = 0; s < 4; s++) {
            c.found(NULL_FINDING, "lose", s).found(NULL_FINDING, "read", s).found(NULL_FINDING, "write", 0, s);
        }
        c.digest();
    }

    private static void objectsApart() {
        Case told = Case.of(1, "No HOOKS, no THINGS, no EVENTS; all SHEETS are LOST.");
        told.hooks(FULL_HOOKS).things(FULL_THINGS).events(0, 0, 0).sheet(0, 0, 1).due(1, "seen", 0, 0, 1);
        Case later = Case.of(1, "No HOOKS, no THINGS, no EVENTS; all SHEETS are LOST.");
        later.each(Case.row(0, 0, 0, 0, 0, 0, 0, 0, 0), "count").found(NULL_FINDING, "lose", 0).digest();
        told.each(Case.row(12, 8, 12, 31, 1), "count").due(1, "get", 0, 0, 0).digest();
    }

    // ---- 2

    private static void byteBounds() {
        for (int text = 0; text < 2; text++) {
            Case c = Case.of(2, "A byte (0 to 255) comes behind a text: how many. BAD; FULL.");
            c.outside(1, 0, 255, BAD, "type", text, 0);
            c.due(1, "type", text, 0).due(2, "type", text, 255).due(3, "type", text, 1).due(4, "type", text, 254);
            c.outside(1, 0, 255, BAD, "type", text, 0);
            c.due(4, "count", 2 + text).due(0, "count", 3 - text).digest();
        }
    }

    private static void noSuchText() {
        Case c = Case.of(2, "A byte (0 to 255) comes behind a text: how many. BAD; FULL.").hooks("hs").things("m10");
        c.outside(0, 0, 1, BAD, "type", 0, 'h');
        // both numbers are wrong
        c.outside(0, 0, 1, BAD, "type", 0, 256).outside(0, 0, 1, BAD, "type", 0, -1).digest();
    }

    private static void twelveBytes() {
        Case c = Case.of(2, "HOOKS are a text of up to 12 bytes (text 0), from the bottom up, 0 on");
        c.hooks(FULL_HOOKS.substring(1)).due(11, "count", 0).due(12, "type", 0, 's').due(12, "count", 0).digest();
        c.still(FULL, "type", 0, 'h').still(FULL, "type", 0, 0).still(FULL, "type", 0, 255);
        c.still(BAD, "type", 0, 256).still(BAD, "type", 0, -1);
        c.due(1, "type", 1, 'm').due(11, "undo", 0).due(12, "type", 0, 'g').still(FULL, "type", 0, 'g');
        c.due(2, "hook", 0).due(0, "hook", 11).digest();
    }

    private static void thirtyOneBytes() {
        Case c = Case.of(2, "THINGS are a text of up to 31 bytes (text 1), 8 at most (0 on), with ; between them");
        c.things(FULL_THINGS.substring(0, 30)).due(0, "count", 1).due(31, "type", 1, '9').due(8, "count", 1).digest();
        c.still(FULL, "type", 1, ';').still(FULL, "type", 1, 0).still(FULL, "type", 1, 255);
        c.still(BAD, "type", 1, 256).still(BAD, "type", 1, -1);
        c.due(1, "type", 0, 'h').due(30, "undo", 1).due(31, "type", 1, '0').still(FULL, "type", 1, '0').digest();
    }

    private static void fullOfFaults() {
        Case c = Case.of(2, "A byte (0 to 255) comes behind a text: how many. BAD; FULL.");
        for (int i = 1; i <= 31; i++) {
            c.due(i <= 12 ? i : FULL, "type", 0, 255).due(i, "type", 1, ';');
        }
        c.still(FULL, "type", 0, 'h').still(FULL, "type", 1, 'm').due(0, "fault", 0).due(0, "fault", 1).digest();
    }

    // ---- 3

    private static void wipe() {
        String sentence = "A text is empty: how many bytes it had. BAD.";
        Case c = Case.of(3, sentence).hooks(FULL_HOOKS).things(FULL_THINGS).digest();
        c.outside(0, 0, 1, BAD, "wipe", 0);
        c.due(12, "wipe", 0).due(0, "count", 0).due(0, "count", 2).due(8, "count", 1).due(31, "count", 3).digest();
        c.still(0, "wipe", 0).due(31, "wipe", 1).due(0, "count", 1).due(0, "count", 3).still(0, "wipe", 1);
        c.isLike(Case.of(3, sentence));
        Case one = Case.of(3, sentence).hooks("h").due(1, "wipe", 0).due(1, "type", 0, 's').due(2, "hook", 0).digest();
        one.things("?m10").due(0, "fault", 1).due(4, "wipe", 1).due(NONE, "fault", 1).digest();
        one.things("m1").due(2, "wipe", 1).things("q10").due(2, "thing", 0, 0).digest();
    }

    // ---- 4

    private static void undo() {
        String sentence = "The last byte of a text is undone: how many are left. BAD; NOT: it is empty.";
        Case c = Case.of(4, sentence).outside(0, 0, 1, BAD, "undo", 0).still(NOT, "undo", 0).still(NOT, "undo", 1);
        c.hooks("h").things("m").outside(0, 0, 1, BAD, "undo", 0);
        c.due(0, "undo", 0).still(NOT, "undo", 0).due(1, "count", 3).due(0, "undo", 1).still(NOT, "undo", 1);
        c.isLike(Case.of(4, sentence));
        Case full = Case.of(4, sentence).hooks(FULL_HOOKS).things(FULL_THINGS);
        full.due(11, "undo", 0).due(11, "count", 0).due(8, "count", 1).digest();
        full.due(30, "undo", 1).due(30, "fault", 1).due(0, "count", 1).digest();
        full.due(29, "undo", 1).due(28, "undo", 1).due(28, "fault", 1).due(27, "undo", 1).due(NONE, "fault", 1);
        full.due(7, "count", 1).digest();
        Case fault = Case.of(4, sentence).hooks("hsx").due(2, "fault", 0).due(0, "count", 0).due(2, "undo", 0);
        fault.due(NONE, "fault", 0).due(2, "count", 0).due(2, "hook", 1).digest();
    }

    // ---- 5

    private static void emptyIsWell() {
        Case c = Case.of(5, "The FAULT of a text; NONE. BAD.").outside(0, 0, 1, BAD, "fault", 0);
        c.still(NONE, "fault", 0).still(NONE, "fault", 1);
        c.hooks("x").things("x").outside(0, 0, 1, BAD, "fault", 0).still(0, "fault", 0).still(0, "fault", 1).digest();
        Case empty = Case.of(5, "(an empty one is well; of one that is not ended, its end)");
        empty.still(NONE, "fault", 0).still(NONE, "fault", 1).hooks("!").things("!");
        empty.due(0, "undo", 0).due(0, "undo", 1).due(NONE, "fault", 0).due(NONE, "fault", 1).digest();
    }

    private static void everyByteOfHooks() {
        String[] before = {"", "h", "hsghsg", "hsghsghsghs"};
        for (String row : before) {
            for (int b = 0; b < 256; b++) {
                Case c = Case.of(5, "h (a hook: it takes a MINUTE), s (stiff: two) or g (gone: none).").hooks(row);
                boolean well = b == 'h' || b == 's' || b == 'g';
                c.due(row.length() + 1, "type", 0, b).due(well ? NONE : row.length(), "fault", 0);
                c.due(well ? row.length() + 1 : 0, "count", 0);
                c.due(b == 'h' ? 1 : b == 's' ? 2 : b == 'g' ? 0 : BAD, "hook", row.length());
            }
        }
    }

    private static void everyByteOfThings() {
        everyByteBehind("", "mwq");
        everyByteBehind("m", "123456789");
        everyByteBehind("w9", "0123456789");
        everyByteBehind("q10", ";");
        everyByteBehind("m10;", "mwq");
        everyByteBehind("m10;w", "123456789");
        everyByteBehind("m10;w2", "0123456789");
        everyByteBehind("m10;w21", ";");
        everyByteBehind(FULL_THINGS.substring(0, 27), ";");
        everyByteBehind(FULL_THINGS.substring(0, 28), "mwq");
        everyByteBehind(FULL_THINGS.substring(0, 29), "123456789");
        everyByteBehind(FULL_THINGS.substring(0, 30), "0123456789");
    }

    /** A byte of these lets the text go on; with another one it cannot. */
    private static void everyByteBehind(String row, String well) {
        int length = row.length() + 1;
        for (int b = 0; b < 256; b++) {
            Case c = Case.of(5, "m (his mother), w (money) or q (a quiet), a figure 1 to 9, the HEAT at first, "
                    + "and a figure 0 to 9, the MARK.").things(row).due(length, "type", 1, b);
            boolean isWell = well.indexOf(b) >= 0;
            boolean isEnded = isWell && length % 4 == 3;
            c.due(isEnded ? NONE : isWell ? length : row.length(), "fault", 1);
            c.due(isEnded ? (length + 1) / 4 : 0, "count", 1);
        }
    }

    private static void firstMiddleAndEnd() {
        String[] hooks = {"x", "xh", "hxh", "hx?", "hsghsxhsghsg", "hsghsghsghsx", "hsghsghsghs\0", "h\u00ff", "h;h"};
        int[] hookFaults = {0, 0, 1, 1, 5, 11, 11, 1, 1};
        for (int i = 0; i < hooks.length; i++) {
            faultIs(0, hooks[i], hookFaults[i]);
        }
        String[] things = {"xm10", "m10;x10;w20", "m10;w00;q00", "m10;wx0", "m10;w1x", "m10w21", "m10;;w21", ";m10",
            "m10;m10;m10;m10;m10;m10;m10;m1x", "m10;m10;m10;m10;m10;m10;m10;x10", "m10;m10;m10;m10;m10;m10;m10:m10",
            "m10 ", "m101", "m010", "\0", "\u00ff"};
        int[] thingFaults = {0, 4, 5, 5, 6, 3, 4, 0, 30, 28, 27, 3, 3, 1, 0, 0};
        for (int i = 0; i < things.length; i++) {
            faultIs(1, things[i], thingFaults[i]);
        }
    }

    private static void faultIs(int text, String bytes, int want) {
        Case c = Case.of(5, "The FAULT of a text is the place of the first byte with which it cannot go on");
        c.hooks(text == 0 ? "" : "hsg").things(text == 1 ? "" : "m20;q30").events(2, 0, 0);
        c.type(text, bytes).still(want, "fault", text).due(NONE, "fault", 1 - text);
        c.due(0, "count", text).due(bytes.length(), "count", 2 + text).digest();
    }

    private static void notEnded() {
        for (int n = 1; n < 31; n++) {
            Case c = Case.of(5, "(an empty one is well; of one that is not ended, its end)");
            c.things(FULL_THINGS.substring(0, n)).due(n % 4 == 3 ? NONE : n, "fault", 1);
            c.due(n % 4 == 3 ? (n + 1) / 4 : 0, "count", 1).digest();
        }
    }

    private static void noNinthThing() {
        // a ninth thing would begin at place 32, and 31 bytes is all there is room for: it can but be refused
        Case c = Case.of(5, "here also of the first byte of a ninth THING").things(FULL_THINGS);
        c.still(NONE, "fault", 1).still(FULL, "type", 1, ';').still(FULL, "type", 1, 'm').still(NONE, "fault", 1);
        c.due(8, "count", 1).due(9, "thing", 7, 2).digest();
    }

    private static void faultOfHooksIsAsEmpty() {
        String sentence = "With a FAULT a text is as if it was empty.";
        Case well = Case.of(5, sentence).hooks("hs").things("m31;q20").events(2, 0, 1, 1, 3, 0).digest();
        Case c = Case.of(5, sentence).hooks("hs").things("m31;q20").events(2, 0, 1, 1, 3, 0);
        c.due(3, "type", 0, 'x').each(Case.row(0, 2, 3, 7, 2, 0, 0, 0), "count").digest();
        c.still(BAD, "hook", 0).still(BAD, "hook", 2).still(BAD, "said", 0, 0);
        c.each(Case.row(0, 0, 0, 0), "at", 0).each(Case.row(0, 0, 0, 0), "sum").due(NONE, "peace").due(3, "sore");
        c.each(Case.row(NONE, NONE, NONE), "leave", 0).due(NONE, "fit").due(NONE, "highest", 0).due(NONE, "longest");
        // 3 at first, 1 hotter behind each of 0 to 10, and once more by the front
        c.due(3, "heat", 0, 0, 0).due(7, "heat", 3, 0, 0).due(9, "heat", 11, 0, 0).due(0, "heat", 0, 0, 1);
        c.due(2, "undo", 0).isLike(well);
        Case none = Case.of(5, sentence).hooks("x").things("m31").sheet(0, 0, 5).due(0, "write", 0, 0).items(0, 0, 5);
        none.digest();
    }

    private static void faultOfThingsIsAsEmpty() {
        String sentence = "With a FAULT a text is as if it was empty.";
        Case well = Case.of(5, sentence).hooks("hs").things("m31;q20").events(2, 0, 1, 1, 3, 0).digest();
        Case c = Case.of(5, sentence).hooks("hs").things("m31;q20").events(2, 0, 1, 1, 3, 0).due(8, "type", 1, ';');
        // 3 minutes an evening, 4 in evening 0, none in evening 3, and all of them the holiday's
        c.each(Case.row(2, 0, 2, 8, 2, 0, 34, 0), "count").each(Case.row(0, 34, 34, 0), "sum").digest();
        c.still(BAD, "thing", 0, 0).still(BAD, "heat", 0, 0, 0).still(BAD, "settled", 0).still(BAD, "highest", 1);
        c.still(BAD, "was", 0, 0).still(BAD, "ask", 0).still(Long.MIN_VALUE + 2, "chance", 5, 0, 0);
        c.due(8, "said", 0, 0).due(8, "said", 11, 1).due(NONE, "said", 3, 0).due(0, "peace").due(0, "sore");
        c.each(Case.row(NONE, NONE, NONE, NONE), "swap").due(0, "fit").due(0, "spare", NONE).due(NONE, "longest");
        c.due(7, "undo", 1).isLike(well);
    }

    // ---- 6

    private static void hook() {
        String sentence = "How many MINUTES a HOOK takes, as told (0, 1, 2). BAD.";
        Case none = Case.of(6, sentence).still(BAD, "hook", 0).still(BAD, "hook", -1).still(BAD, "hook", 11).digest();
        none.hooks("s").due(2, "hook", 0).outside(0, 0, 0, BAD, "hook", 0).digest();
        Case c = Case.of(6, sentence).hooks("ghs").each(Case.row(0, 1, 2), "hook").outside(0, 0, 2, BAD, "hook", 0);
        // as told, though they are left, or by a maid take none
        c.events(2, 0, 0, 2, 0, 1, 2, 0, 2, 0, 0, 0, 1, 0, 0).each(Case.row(0, 1, 2), "hook").digest();
        Case full = Case.of(6, sentence).hooks("hhhhhhhhhhgs").due(0, "hook", 10).due(2, "hook", 11);
        full.outside(0, 0, 11, BAD, "hook", 0).digest();
        Case gone = Case.of(6, sentence).hooks("gggggggggggg").things("m10");
        gone.each(Case.row(0, 0, 0, 0, 0, 0, 0, 0, 0, 0, 0, 0), "hook").digest();
    }

    // ---- 7

    private static void thing() {
        String sentence = "Its sort (what = 0: 0 m, 1 w, 2 q), HEAT at first (1), MARK (2) of a THING as told. BAD.";
        Case none = Case.of(7, sentence).still(BAD, "thing", 0, 0).still(BAD, "thing", -1, 0).still(BAD, "thing", 7, 2);
        none.digest();
        Case c = Case.of(7, sentence).hooks("hh").things("m10;w99;q55");
        c.each(Case.row(0, 1, 0), "thing", 0).each(Case.row(1, 9, 9), "thing", 1).each(Case.row(2, 5, 5), "thing", 2);
        c.outside(0, 0, 2, BAD, "thing", 0, 0).outside(1, 0, 2, BAD, "thing", 0, 0);
        c.outside(0, 0, 2, BAD, "thing", 0, 3);
        // as told, though the first is settled at once, and by the front the others are hotter
        c.events(1, 0, 0).each(Case.row(0, 1, 0), "thing", 0).due(5, "thing", 2, 1).digest();
        Case full = Case.of(7, sentence).things(FULL_THINGS);
        full.each(Case.row(0, 1, 0), "thing", 0).each(Case.row(1, 9, 9), "thing", 7);
        full.outside(0, 0, 7, BAD, "thing", 0, 0).digest();
        full.due(30, "undo", 1).still(BAD, "thing", 0, 0).still(BAD, "thing", 7, 0).digest();
    }
}
