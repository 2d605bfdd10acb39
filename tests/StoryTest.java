/**
 * Acts of all parts in one run on one object, every answer worked out by hand: what stands behind each act must be
 * what the document asks there, whatever was told, asked, undone and told again ahead of it.
 */
public final class StoryTest {
    private static final int NONE = -1, BAD = -2, NOT = -3;
    private static final long BAD_LONG = Long.MIN_VALUE + 2;

    private final Case c = Case.of(1, "what was told undone");

    public static void main(String[] args) {
        new StoryTest().run();
        new StoryTest().runOfAllSorts();
        new StoryTest().exampleOfTheReadme();
        Checks.end();
    }

    private void run() {
        aThingIsTypedByteByByte();
        aHookIsLeft();
        aMaidComes();
        theMaidIsUndoneAndTheThingToldOtherwise();
        aSheetIsWrittenAndAnotherRead();
        theHooksAreWiped();
        c.digest();
    }

    /** Two hooks of 1 and 2 minutes; his mother, 2 hot, at hook 0 alone: 1 off in each evening, 1 hotter behind it. */
    private void aThingIsTypedByteByByte() {
        c.due(NOT, "undo", 1).due(NOT, "back").due(0, "peace").due(NONE, "fault", 1);
        c.hooks("hs").due(1, "type", 1, 'm');
        c.due(1, "fault", 1).due(0, "count", 1).due(0, "peace").due(3, "at", 0, 1).due(BAD, "settled", 0);
        c.due(2, "type", 1, '2').due(2, "fault", 1).due(36, "sum", 2);
        c.due(3, "type", 1, '0').due(NONE, "fault", 1).due(1, "count", 1).due(0, "sum", 2);
        c.due(NONE, "settled", 0).due(NONE, "peace").due(1, "sore").due(NONE, "fit").due(NONE, "swap", 0);
        c.each(Case.row(0, 36, 0, 24), "sum").due(0, "longest").due(0, "highest", 0);
        c.due(1, "heat", 0, 0, 0).due(1, "heat", 11, 0, 0).due(0, "said", 4, 0).due(9, "said", 4, 1);
        c.each(Case.row(0, 1, 33), "leave", 0).each(Case.row(0, 1, 30), "leave", 1).each(Case.row(0, 1, 0), "leave", 11);
    }

    /** Hook 0 comes behind hook 1 in evening 0, in 2 minutes: both are his mother's. */
    private void aHookIsLeft() {
        c.due(1, "event", 2, 0, 0).due(0, "settled", 0).due(0, "peace").due(0, "sore");
        c.each(Case.row(1, 37, 33, 2), "sum").each(Case.row(4, 0, 2, 1), "at", 0);
        c.due(0, "said", 0, 0).due(9, "said", 0, 1).due(1, "count", 5).due(33, "count", 6);
        c.due(0, "spare", NONE).due(NONE, "spare", 0).due(1, "fit");
    }

    /** Behind the maid's evening it is 3, and never comes below 2 again. */
    private void aMaidComes() {
        c.due(2, "event", 0, 0, 5).due(NONE, "settled", 0).due(2, "heat", 0, 0, 0).due(2, "heat", 1, 0, 0);
        c.due(NONE, "said", 0, 0).each(Case.row(0, 0, 0, 0), "at", 0);
        c.due(1, "spare", NONE).due(1, "spare", 0).due(NONE, "spare", 1);
        c.due(3, "never").due(1, "seen", 0, 0, 1).due(2, "never").due(0, "was", 0, 0).due(0, "was", 0, 1).due(0, "ask", 0);
        // by heat 1 it is 2 in evening 1 and so on; no evening ever settles it
        c.due(1, "forget").due(0, "forget").due(1022, "was", 0, 0);
        // it is settled if the hook is left and no maid comes: 4/16 by 12/16
        c.due(3, "chance", 4, 0, 0).due(16, "chance", 4, 0, 1).due(1, "chance", 8, 0, 0).due(4, "chance", 8, 0, 1);
        c.due(0, "chance", 16, 0, 0).due(1, "chance", 16, 0, 1).due(0, "chance", 0, 0, 0).due(1, "chance", 0, 0, 1);
    }

    private void theMaidIsUndoneAndTheThingToldOtherwise() {
        c.due(1, "back").due(0, "settled", 0).due(1, "chance", 4, 0, 0).due(4, "chance", 4, 0, 1);
        c.due(2, "undo", 1).due(2, "fault", 1).due(BAD, "settled", 0).due(0, "peace").due(37, "sum", 2);
        c.due(BAD_LONG, "chance", 4, 0, 0).due(0, "spare", NONE);
        // his mother at hooks 0 and 1: settled at hook 1, and the hook that was left is the holiday's
        c.due(3, "type", 1, '1').due(0, "settled", 0).due(35, "sum", 2).due(2, "heat", 0, 0, 1).due(1, "highest", 0);
        c.due(8, "said", 0, 0).due(0, "said", 0, 1);
    }

    private void aSheetIsWrittenAndAnotherRead() {
        c.due(Checks.NULL, "write", 0, 2).due(1, "count", 8).due(4, "sheet", 2, 1, 4).due(2, "write", 0, 2);
        c.items(2, 1, 8, 0, 0, 0).due(Checks.CAST, "put", 2, 0, 0, 1).due(3, "count", 8);
        // a front in evening 0; the next three have no such number, so they and those behind are not read
        c.sheet(0, 0, 1, 0, 9, 2, 0, 12, 0, 1, 1).due(1, "read", 0).due(2, "count", 4);
        // 3 behind evening 0, then 4 less 3, then 2: settled at hook 1, whose other minute is the holiday's
        c.due(2, "settled", 0).due(3, "heat", 0, 0, 0).due(1, "heat", 1, 0, 0).due(0, "heat", 2, 0, 0);
        c.due(2, "heat", 2, 0, 1).due(8, "said", 2, 1).each(Case.row(1, 33, 28, 0), "sum");
        c.due(2, "write", 0, 0).items(0, 0, -1, -1, 9, 2).due(0, "read", 0).due(2, "count", 4);
        c.due(Checks.STORE, "copy", 2, 0, 0, 0, 1).due(4, "lose", 2).due(Checks.NULL, "copy", 2, 0, 0, 0, 1);
        c.due(1, "copy", 0, 2, 0, 3, 3).items(0, 0, -1, -1, 9, 9, 2, 0, 0, 1, 1).due(28, "sum", 2);
    }

    private void theHooksAreWiped() {
        c.due(2, "wipe", 0).due(0, "at", 1, 0).due(BAD, "hook", 0).due(NONE, "leave", 0, 0).due(NONE, "settled", 0);
        c.due(NONE, "fit").due(9, "heat", 11, 0, 0).due(NONE, "longest").due(0, "write", 0, 0);
        c.due(1, "type", 0, 'g').due(NONE, "said", 0, 0).due(0, "hook", 0);
        // the front is undone: the hook is gone, but left in evening 0, so it has a minute there
        c.due(1, "back").due(0, "said", 0, 0).due(NONE, "said", 1, 0).due(1, "heat", 0, 0, 0).due(2, "heat", 1, 0, 0);
        c.due(1, "sum", 1).due(0, "back").due(0, "sum", 1).due(NOT, "back").due(2, "heat", 0, 0, 0);
        c.due(3, "wipe", 1).due(0, "wipe", 1).due(0, "peace").due(0, "sum", 2).due(1, "wipe", 0).due(NOT, "undo", 0);
    }

    /** A quiet, money and his mother on hooks of 1, 2 and 1 minutes, told, changed and told back again. */
    private void runOfAllSorts() {
        c.hooks("hsh").things("q40;w31;m10");
        threeSorts();
        // w at hook 0 on: 1 off (3 to 2), 2 minutes of hook 1 settle it, and the quiet has 3 off at the last
        c.due(10, "undo", 1).due(10, "fault", 1).due(0, "count", 1).due(48, "sum", 2);
        c.due(9, "undo", 1).due(8, "undo", 1).due(7, "undo", 1).due(6, "undo", 1).due(7, "type", 1, '0');
        c.due(2, "count", 1).due(0, "settled", 1).due(1, "heat", 0, 0, 0).due(1, "settled", 0).due(1, "peace");
        // evening 1 begins with the quiet at 2: two minutes settle it, and two are the holiday's
        c.each(Case.row(4, 2, 0, 1), "at", 1).due(42, "sum", 2).each(Case.row(0, 1, 2, 42), "swap");
        c.due(6, "undo", 1).due(7, "type", 1, '1').type(1, ";m10");
        threeSorts();
        c.digest();
    }

    /**
     * Evening 0: m at hook 0 is settled; w at hook 1 has 2 off twice and is settled by the second; the quiet has 3
     * off at hook 2. Evening 1: the quiet, 2 hot, is settled by two minutes.
     */
    private void threeSorts() {
        c.due(2, "said", 0, 0).due(1, "said", 0, 1).due(0, "said", 0, 2).each(Case.row(4, 0, 0, 2), "at", 0);
        c.due(0, "settled", 2).due(0, "settled", 1).due(2, "heat", 0, 1, 1).due(1, "heat", 0, 0, 0);
        c.due(1, "settled", 0).each(Case.row(4, 2, 0, 1), "at", 1).due(42, "sum", 2).due(0, "longest");
        c.due(2, "highest", 0).due(1, "highest", 1).due(0, "highest", 2).due(3, "sum", 0);
    }

    /**
     * Evening 0: the quiet has 1 off twice, as hook 1 is not the last, then his mother is settled. Evening 1: the quiet
     * is 2, 1, and settled at hook 1, whose other minute is the holiday's. With no hook left she is never below 1.
     */
    private void exampleOfTheReadme() {
        c.hooks("hs").things("m20;q30").events(2, 0, 0);
        c.due(1, "peace").due(31, "sum", 2).due(1, "chance", 4, 0, 0).due(4, "chance", 4, 0, 1).digest();
    }
}
