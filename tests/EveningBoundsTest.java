/** Promises 11 to 19 at their bounds, sentence by sentence: what is said in an evening, and what comes of them. */
public final class EveningBoundsTest {
    private static final int NONE = BackHooks.NONE, BAD = BackHooks.BAD, HOLIDAY = 8, NOTHING = 9;
    private static final int MAID = 0, FRONT = 1, LEFT = 2;
    private static final String TWELVE = "hhhhhhhhhhhh", GONE = "gggggggggggg", STIFF = "ssssssssssss";

    public static void main(String[] args) {
        noHooks();
        allHooksGone();
        allHooksStiff();
        leftBehindAllOthers();
        leftOnceHoweverOften();
        marksOfHisMother();
        marksOfMoney();
        theFirstOfBothSorts();
        quietWhateverHook();
        holidayOrNothing();
        moneyByTwo();
        quietByThree();
        heatIsZeroAtLeast();
        settledForGood();
        maidAndFront();
        frontOnceAndNineAtMost();
        hotterBehindEachButTheLast();
        heat();
        said();
        at();
        settled();
        sum();
        peace();
        longest();
        highest();
        sore();
        Document.quotedAll(11, 19);
        Checks.end();
    }

    private static void heatIs(Case c, int evening, int thing, int heat, int minutes) {
        c.due(heat, "heat", evening, thing, 0).due(minutes, "heat", evening, thing, 1);
    }

    // ---- the terms of an evening

    private static final String EACH = "In an EVENING he does the HOOKS from the bottom up, each in as many MINUTES as it "
            + "takes";

    private static void noHooks() {
        Case c = Case.of(13, EACH).things("m10;w10;q10").each(Case.row(0, 0, 0, 0), "sum").due(7, "sore");
        for (int e = 0; e < 12; e++) {
            c.each(Case.row(0, 0, 0, 0), "at", e).due(Math.min(9, e + 1), "heat", e, 0, 0);
        }
        c.due(NONE, "peace").due(NONE, "longest").due(NONE, "highest", 2).due(NONE, "settled", 0).digest();
        Case none = Case.of(13, EACH).each(Case.row(0, 0, 0, 0), "sum").due(0, "peace").due(0, "sore").digest();
        none.events(MAID, 0, 0, FRONT, 0, 0, LEFT, 11, 0).each(Case.row(0, 0, 0, 0), "sum").due(0, "peace").digest();
    }

    private static void allHooksGone() {
        Case c = Case.of(13, EACH).hooks(GONE).things("m19;w10;q10").each(Case.row(0, 0, 0, 0), "sum").due(7, "sore");
        for (int k = 0; k < 12; k++) {
            c.due(NONE, "said", 0, k).due(NONE, "said", 11, k);
        }
        c.due(NONE, "peace").due(NONE, "longest").due(NONE, "fit").digest();
        Case none = Case.of(13, EACH).hooks(GONE).each(Case.row(0, 0, 0, 0), "sum").due(0, "peace").digest();
        none.due(NONE, "said", 0, 0).due(0, "at", 0, 1);
    }

    private static void allHooksStiff() {
        Case c = Case.of(13, EACH).hooks(STIFF);
        for (int e = 0; e < 12; e++) {
            c.each(Case.row(24, 24, 0, 0), "at", e);
        }
        c.each(Case.row(0, 288, 288, 0), "sum").due(288, "count", 6).digest();
        // in evening 0 a minute more for each of the eight hooks that are left
        Case left = Case.of(13, EACH).hooks(STIFF);
        left.events(LEFT, 0, 0, LEFT, 0, 1, LEFT, 0, 2, LEFT, 0, 3, LEFT, 0, 4, LEFT, 0, 5, LEFT, 0, 6, LEFT, 0, 11);
        left.each(Case.row(32, 32, 0, 0), "at", 0).each(Case.row(0, 296, 296, 0), "sum").digest();
    }

    private static final String BEHIND = "those that are LEFT behind all others, from the bottom up, each in 1 MINUTE more "
            + "than it takes (so one that is gone in 1; once, however often).";

    private static void leftBehindAllOthers() {
        // hooks 2 and 0 are left, told from the top: he does 1, then 0 in two minutes, then 2 in two
        Case c = Case.of(12, BEHIND).hooks("hhh").things("w91;q90").events(LEFT, 0, 2, LEFT, 0, 0);
        c.each(Case.row(1, 0, 0), "said", 0).each(Case.row(5, 0, 0, 0), "at", 0);
        heatIs(c, 0, 0, 6, 3);
        heatIs(c, 0, 1, 7, 2);
        c.digest();
        // all are left: 0 in two, 1 in three, 2, which is gone, in one; that is the last, where a quiet goes by 3
        Case all = Case.of(12, BEHIND).hooks("hsg").things("q90").events(LEFT, 0, 0, LEFT, 0, 1, LEFT, 0, 2);
        all.each(Case.row(0, 0, 0), "said", 0).each(Case.row(6, 0, 0, 0), "at", 0);
        heatIs(all, 0, 0, 1, 6);
        all.digest();
        // in evening 11 alone
        Case last = Case.of(12, BEHIND).hooks("hg").things("m90").events(LEFT, 11, 0, LEFT, 11, 1);
        last.each(Case.row(1, 0, 0, 0), "at", 10).each(Case.row(3, 0, 1, 0), "at", 11).due(NONE, "said", 10, 1);
        last.due(NOTHING, "said", 11, 1).digest();
        // his mother is settled at hook 1, so hook 0, which comes last, has the holiday
        Case late = Case.of(12, BEHIND).hooks("hhh").things("m12").events(LEFT, 0, 0);
        late.each(Case.row(HOLIDAY, 0, HOLIDAY), "said", 0).each(Case.row(4, 3, 0, 1), "at", 0).digest();
    }

    private static void leftOnceHoweverOften() {
        Case once = Case.of(13, BEHIND).hooks("gs").things("q90").events(LEFT, 0, 0);
        once.each(Case.row(3, 0, 0, 0), "at", 0).digest();
        heatIs(once, 0, 0, 4, 3);
        Case twice = Case.of(13, BEHIND).hooks("gs").things("q90").events(LEFT, 0, 0, LEFT, 0, 0);
        twice.each(Case.row(3, 0, 0, 0), "at", 0).each(Case.row(2, 0, 0, 1), "at", 1).digest();
        heatIs(twice, 0, 0, 4, 3);
        Case eight = Case.of(13, BEHIND).hooks("gs").things("q90");
        for (int i = 0; i < 8; i++) {
            eight.events(LEFT, 0, 0);
        }
        eight.each(Case.row(3, 0, 0, 0), "at", 0).due(BackHooks.FULL, "event", LEFT, 0, 0).digest();
        heatIs(eight, 0, 0, 4, 3);
    }

    private static final String MARKS = "his mother at HOOKS of MARK or less, money at HOOKS of MARK or more";

    private static void marksOfHisMother() {
        for (int mark = 0; mark <= 9; mark++) {
            Case c = Case.of(12, MARKS).hooks("ggggggggggg".substring(0, mark) + "hhh").things("m9" + mark);
            c.due(0, "said", 0, mark).due(NOTHING, "said", 0, mark + 1).due(NOTHING, "said", 0, mark + 2);
            c.due(mark, "highest", 0).due(8, "heat", 0, 0, 0).digest();
        }
        // two of them, as one would be settled: hooks 10 and 11 are above every mark
        Case top = Case.of(12, MARKS).hooks(TWELVE).things("m99;m99");
        top.each(Case.row(0, 0, 0, 0, 0, 0, 0, 0, 0, 1, NOTHING, NOTHING), "said", 0);
        top.due(8, "highest", 0).due(9, "highest", 1).each(Case.row(12, 0, 2, 1), "at", 0).digest();
    }

    private static void marksOfMoney() {
        for (int mark = 1; mark <= 9; mark++) {
            Case c = Case.of(12, MARKS).hooks("ggggggggg".substring(0, mark - 1) + "hhh").things("w9" + mark);
            c.due(NOTHING, "said", 0, mark - 1).due(0, "said", 0, mark).due(0, "said", 0, mark + 1);
            c.due(mark + 1, "highest", 0).due(7, "heat", 0, 0, 0).digest();
        }
        Case bottom = Case.of(12, MARKS).hooks("hh").things("w90").each(Case.row(0, 0), "said", 0).digest();
        bottom.due(7, "heat", 0, 0, 0);
        Case top = Case.of(12, MARKS).hooks(TWELVE).things("w99").each(Case.row(12, 0, 9, 0), "at", 0);
        top.due(NOTHING, "said", 0, 8).due(0, "said", 0, 9).due(0, "said", 0, 11).due(11, "highest", 0).digest();
        Case never = Case.of(12, MARKS).hooks("hhhhhhhhh").things("w99").each(Case.row(0, 108, 0, 108), "sum");
        never.due(NONE, "highest", 0).due(9, "heat", 11, 0, 0).digest();
    }

    private static final String FIRST = "the first of the THINGS that are not SETTLED of his mother, of money, that can be "
            + "said there";

    private static void theFirstOfBothSorts() {
        Case money = Case.of(12, FIRST).hooks("h").things("w90;m99").due(0, "said", 0, 0).digest();
        heatIs(money, 0, 1, 9, 0);
        Case mother = Case.of(12, FIRST).hooks("h").things("m90;w90").due(0, "said", 0, 0).digest();
        heatIs(mother, 0, 1, 9, 0);
        // the first cannot be said at hook 0, nor the third at hook 1
        Case marks = Case.of(12, FIRST).hooks("hh").things("w91;q90;m90;w90").each(Case.row(2, 0), "said", 0).digest();
        heatIs(marks, 0, 3, 9, 0);
        // those that are settled are passed over, all eight in turn
        Case eight = Case.of(12, FIRST).hooks("ssss").things("m19;m19;m19;m19;m19;m19;m19;m19");
        eight.each(Case.row(1, 3, 5, 7), "said", 0).each(Case.row(8, 0, 0, 8), "at", 0);
        eight.each(Case.row(HOLIDAY, HOLIDAY, HOLIDAY, HOLIDAY), "said", 1).due(0, "peace").digest();
    }

    private static void quietWhateverHook() {
        String sentence = "if there is none, the first quiet that is not SETTLED (whatever HOOK)";
        Case high = Case.of(12, sentence).hooks("h").things("q99").due(0, "said", 0, 0).digest();
        heatIs(high, 0, 0, 6, 1);
        Case low = Case.of(12, sentence).hooks("gggggggggggh").things("q90").due(0, "said", 0, 11).digest();
        low.due(11, "highest", 0);
        // his mother goes first though she is told last; above her mark the first of the quiets
        Case after = Case.of(12, sentence).hooks("hhh").things("q90;q10;m90").each(Case.row(2, 0, 0), "said", 0);
        heatIs(after, 0, 0, 5, 2);
        heatIs(after, 0, 1, 1, 0);
        after.digest();
        // the first is settled at the last hook, so the second is not said before evening 1
        Case second = Case.of(12, sentence).hooks("hh").things("q10;q90").each(Case.row(0, 1), "said", 0).digest();
        heatIs(second, 0, 1, 6, 1);
    }

    private static void holidayOrNothing() {
        String sentence = "if all THINGS are SETTLED, the HOLIDAY; else NOTHING.";
        Case none = Case.of(12, sentence).hooks("hs").each(Case.row(HOLIDAY, HOLIDAY), "said", 0);
        none.each(Case.row(3, 3, 0, 0), "at", 0).digest();
        // in the second minute of the same hook
        Case one = Case.of(12, sentence).hooks("s").things("m10").due(HOLIDAY, "said", 0, 0);
        one.each(Case.row(2, 1, 0, 1), "at", 0).digest();
        heatIs(one, 0, 0, 0, 1);
        // all but one are settled
        Case seven = Case.of(12, sentence).hooks("ssss").things("m19;m19;m19;m19;m19;m19;m19;w99");
        seven.each(Case.row(1, 3, 5, NOTHING), "said", 0).each(Case.row(8, 0, 1, 7), "at", 0).due(128, "sore").digest();
    }

    // ---- the terms of what softens

    private static void moneyByTwo() {
        String sentence = "money by 1, by 2 if anything was SETTLED in this EVENING already";
        // money itself is settled by 1 at hook 0; behind that the next is 2 less
        Case money = Case.of(11, sentence).hooks("hh").things("w10;w20").due(0, "settled", 0).due(0, "settled", 1);
        money.digest();
        Case one = Case.of(11, sentence).hooks("hh").things("w20;w20");
        heatIs(one, 0, 0, 0, 2);
        heatIs(one, 0, 1, 2, 0);
        one.digest();
        // his mother is settled in evening 0, so in evening 1 money is by 1 again: 3, 4, 3
        Case next = Case.of(11, sentence).hooks("h").things("m10;w30");
        heatIs(next, 0, 1, 3, 0);
        heatIs(next, 1, 1, 3, 1);
        next.due(NONE, "settled", 1).digest();
        // a quiet is settled at hook 1, the last but for the stiff one, which is left: 9 by 2, by 2, by 2
        Case quiet = Case.of(11, sentence).hooks("hs").things("q10;w91").events(LEFT, 0, 1);
        quiet.each(Case.row(0, 1), "said", 0).digest();
        heatIs(quiet, 0, 1, 3, 3);
        // his mother, whatever was settled, by 1
        Case mother = Case.of(11, sentence).hooks("hh").things("m10;m99");
        heatIs(mother, 0, 1, 8, 1);
        mother.digest();
    }

    private static void quietByThree() {
        String sentence = "a quiet by 1, by 3 at the last one of the HOOKS that are done in this EVENING that takes any "
                + "MINUTE.";
        String[] hooks = {"h", "hh", "hg", "ghg", "s", "hs", "sh", "ggggggggggsg", TWELVE};
        int[] heats = {6, 5, 6, 6, 3, 2, 4, 3, 0};
        for (int i = 0; i < hooks.length; i++) {
            Case c = Case.of(11, sentence).hooks(hooks[i]).things("q90").due(heats[i], "heat", 0, 0, 0).digest();
            c.due(0, "heat", 11, 0, 0);
        }
        // left: hook 0 is the last in two minutes; one that is gone is the last in one
        Case low = Case.of(11, sentence).hooks("hh").things("q90").events(LEFT, 0, 0).due(2, "heat", 0, 0, 0).digest();
        low.due(0, "heat", 1, 0, 0);
        Case gone = Case.of(11, sentence).hooks("hg").things("q90").events(LEFT, 0, 1).due(5, "heat", 0, 0, 0).digest();
        gone.due(3, "heat", 1, 0, 0);
        // the one left is below, and gone: it is the last all the same
        Case below = Case.of(11, sentence).hooks("gh").things("q90").events(LEFT, 0, 0).due(5, "heat", 0, 0, 0).digest();
        below.due(0, "said", 0, 0);
        // a hook that there is not cannot be the last
        Case other = Case.of(11, sentence).hooks("hh").things("q90").events(LEFT, 0, 2).due(5, "heat", 0, 0, 0).digest();
        other.due(2, "at", 0, 0);
    }

    private static void heatIsZeroAtLeast() {
        String sentence = "HEAT is 0 at least: then it is SETTLED, for good.";
        int[] quietHeats = {0, 0, 0, 1, 2, 3, 4, 5, 6};
        for (int heat = 1; heat <= 9; heat++) {
            Case c = Case.of(11, sentence).hooks("h").things("q" + heat + "0");
            heatIs(c, 0, 0, quietHeats[heat - 1], 1);
            c.due(heat <= 3 ? 1 : 0, "at", 0, 3).digest();
        }
        // money at 1, and at 2, by 2
        Case one = Case.of(11, sentence).hooks("hh").things("m10;w10");
        heatIs(one, 0, 1, 0, 1);
        one.due(0, "settled", 1).digest();
        Case two = Case.of(11, sentence).hooks("hh").things("m10;w20");
        heatIs(two, 0, 1, 0, 1);
        two.due(0, "settled", 1).digest();
        // and at 3
        Case three = Case.of(11, sentence).hooks("hh").things("m10;w30");
        heatIs(three, 0, 1, 1, 1);
        three.due(1, "settled", 1).digest();
        // his mother at 1, and at 2
        Case mother = Case.of(11, sentence).hooks("h").things("m10").due(0, "settled", 0).digest();
        heatIs(mother, 0, 0, 0, 1);
        Case never = Case.of(11, sentence).hooks("h").things("m20").due(NONE, "settled", 0).digest();
        heatIs(never, 11, 0, 1, 1);
    }

    private static void settledForGood() {
        String sentence = "HEAT is 0 at least: then it is SETTLED, for good.";
        Case c = Case.of(14, sentence).hooks("h").things("m10").events(FRONT, 1, 0, FRONT, 11, 0, MAID, 5, 0);
        for (int e = 0; e < 12; e++) {
            heatIs(c, e, 0, 0, e == 0 ? 1 : 0);
        }
        c.due(0, "settled", 0).each(Case.row(1, 9, 8, 0), "sum").due(0, "sore").digest();
    }

    private static final String SILENT = "By a MAID, by the FRONT nothing is said in that EVENING, no HOOK takes a MINUTE";

    private static void maidAndFront() {
        for (int evening = 0; evening < 12; evening += 11) {
            // 5, or 4 and 1 hotter, is what his mother comes to each evening with
            int[][] events = {{MAID, evening, 0}, {FRONT, evening, 0}, {MAID, evening, 0, FRONT, evening, 0},
                {FRONT, evening, 0, MAID, evening, 0}, {FRONT, evening, 0, FRONT, evening, 1, MAID, evening, 0},
                {MAID, evening, 0, MAID, evening, 0}};
            int[] heats = {5, 6, 6, 6, 6, 5};
            for (int i = 0; i < events.length; i++) {
                Case c = Case.of(13, SILENT).hooks("hg").things("m50").events(events[i]).events(LEFT, evening, 1);
                c.each(Case.row(0, 0, 0, 0), "at", evening).each(Case.row(NONE, NONE), "said", evening);
                heatIs(c, evening, 0, heats[i], 0);
                c.each(Case.row(0, 11, 0, 0), "sum").due(1, "sore").digest();
                heatIs(c, 5, 0, evening == 0 ? heats[i] : 4, 1);
            }
        }
        // there is no holiday in such an evening either
        Case holiday = Case.of(13, SILENT).hooks("hs").events(MAID, 0, 0, FRONT, 11, 0, MAID, 11, 0);
        holiday.each(Case.row(0, 0, 0, 0), "at", 0).each(Case.row(0, 0, 0, 0), "at", 11);
        holiday.each(Case.row(0, 30, 30, 0), "sum").due(NONE, "said", 0, 0).due(0, "peace").digest();
    }

    private static void frontOnceAndNineAtMost() {
        String sentence = "by the FRONT (once, however often) all THINGS that are not SETTLED are 1 hotter, 9 at most.";
        Case once = Case.of(11, sentence).hooks("h").things("m10;w80;q90;m90").events(FRONT, 0, 0);
        int[] heats = {2, 9, 9, 9};
        for (int t = 0; t < 4; t++) {
            heatIs(once, 0, t, heats[t], 0);
        }
        once.digest();
        Case often = Case.of(11, sentence).hooks("h").things("m10;w80;q90;m90");
        for (int i = 0; i < 8; i++) {
            often.events(FRONT, 0, i);
        }
        for (int t = 0; t < 4; t++) {
            heatIs(often, 0, t, heats[t], 0);
        }
        often.digest();
        // one that is settled stays so
        Case settled = Case.of(11, sentence).hooks("hh").things("m10;q20").events(FRONT, 1, 0, FRONT, 11, 0);
        heatIs(settled, 0, 0, 0, 1);
        heatIs(settled, 1, 0, 0, 0);
        heatIs(settled, 11, 0, 0, 0);
        settled.digest();
        // the last evening: 4 and 1 hotter, and by the front 1 more
        Case last = Case.of(11, sentence).hooks("h").things("m50").events(FRONT, 11, 0);
        heatIs(last, 10, 0, 4, 1);
        heatIs(last, 11, 0, 6, 0);
        last.digest();
    }

    private static void hotterBehindEachButTheLast() {
        String sentence = "Behind each EVENING, but the last one, those that are not SETTLED are 1 hotter, 9 at most, "
                + "before the next one.";
        Case c = Case.of(11, sentence).hooks("g").things("m10;q80;w90");
        for (int e = 0; e < 12; e++) {
            heatIs(c, e, 0, Math.min(9, e + 1), 0);
            heatIs(c, e, 1, e == 0 ? 8 : 9, 0);
            heatIs(c, e, 2, 9, 0);
        }
        c.digest();
        // 2, 1, 2, 1: what is told behind evening 11 is 1 as behind all others, and it is not settled
        Case ahead = Case.of(11, "Behind an EVENING (ahead of what is hotter before the next one) of a THING: HEAT");
        ahead.hooks("h").things("m20");
        for (int e = 0; e < 12; e++) {
            heatIs(ahead, e, 0, 1, 1);
        }
        ahead.due(1, "sore").digest();
    }

    // ---- 11 to 13

    private static void heat() {
        String sentence = "HEAT (what = 0), in how many MINUTES it was said (1). BAD.";
        Case none = Case.of(11, sentence).hooks("h").still(BAD, "heat", 0, 0, 0).still(BAD, "heat", 11, 7, 1).digest();
        none.outside(0, 0, 11, BAD, "heat", 0, 0, 0);
        Case c = Case.of(11, sentence).hooks("hs").things("m90;q10").outside(0, 0, 11, BAD, "heat", 0, 0, 0);
        c.outside(1, 0, 1, BAD, "heat", 0, 0, 0).outside(2, 0, 1, BAD, "heat", 0, 0, 0);
        c.outside(0, 0, 11, BAD, "heat", 0, 2, 2).still(8, "heat", 0, 0, 0).still(0, "heat", 11, 1, 1).digest();
        // nine minutes settle the hottest
        Case most = Case.of(11, sentence).hooks(TWELVE).things("m99").due(9, "heat", 0, 0, 1).due(0, "heat", 0, 0, 0);
        most.digest();
        Case eight = Case.of(11, sentence).hooks("h").things("w99;w99;w99;w99;w99;w99;w99;m10");
        eight.due(0, "heat", 0, 7, 0).due(1, "heat", 0, 7, 1).due(9, "heat", 11, 6, 0).due(0, "heat", 11, 7, 1);
        eight.outside(1, 0, 7, BAD, "heat", 0, 0, 0).digest();
    }

    private static void said() {
        String sentence = "What was said last (0 to 9); NONE. BAD.";
        Case none = Case.of(12, sentence).things("m10").still(BAD, "said", 0, 0).still(BAD, "said", 11, 11).digest();
        none.outside(0, 0, 11, BAD, "said", 0, 0);
        Case c = Case.of(12, sentence).hooks("hgs").things("m10;m22").outside(0, 0, 11, BAD, "said", 0, 0);
        c.outside(1, 0, 2, BAD, "said", 0, 0).outside(0, 0, 11, BAD, "said", 0, 3);
        c.each(Case.row(0, NONE, 1), "said", 0).each(Case.row(HOLIDAY, NONE, HOLIDAY), "said", 11).digest();
        // of two in one hook the last
        Case two = Case.of(12, "what was said at it last: 0 to 7 a THING, 8 the HOLIDAY, 9 NOTHING").hooks("s");
        two.things("m10;m20").due(1, "said", 0, 0).digest();
        Case full = Case.of(12, sentence).hooks(TWELVE).due(HOLIDAY, "said", 11, 11).outside(1, 0, 11, BAD, "said", 0, 0);
        full.digest();
        Case took = Case.of(12, "NONE: it took no MINUTE.").hooks("gh").things("m10").events(MAID, 1, 0, FRONT, 2, 0);
        took.events(LEFT, 3, 0).each(Case.row(NONE, NOTHING), "said", 0).each(Case.row(NONE, NONE), "said", 1);
        took.each(Case.row(NONE, NONE), "said", 2).each(Case.row(0, NOTHING), "said", 3).digest();
    }

    private static void at() {
        String sentence = "MINUTES (what = 0), of the HOLIDAY (1), of NOTHING (2), how many were SETTLED (3). BAD.";
        Case none = Case.of(13, sentence).outside(0, 0, 11, BAD, "at", 0, 0).outside(1, 0, 3, BAD, "at", 0, 0);
        none.each(Case.row(0, 0, 0, 0), "at", 0).each(Case.row(0, 0, 0, 0), "at", 11).digest();
        Case c = Case.of(13, sentence).hooks("hsh").things("w11").outside(0, 0, 11, BAD, "at", 0, 4);
        c.each(Case.row(4, 2, 1, 1), "at", 0).each(Case.row(4, 4, 0, 0), "at", 11).outside(1, 0, 3, BAD, "at", 11, 0);
        c.still(4, "at", 0, 0).digest();
    }

    // ---- 14 to 19

    /** Two minutes an evening settle 9 in evening 7, and each maid makes that two evenings later. */
    private static Case settledAtLast(int promise, String sentence) {
        return Case.of(promise, sentence).hooks("hh").things("m91").events(MAID, 3, 0, MAID, 4, 0);
    }

    private static void settled() {
        String sentence = "SETTLED; NONE. BAD.";
        Case none = Case.of(14, sentence).hooks("h").still(BAD, "settled", 0).outside(0, 0, 7, BAD, "settled", 0).digest();
        none.things("m10").due(0, "settled", 0).outside(0, 0, 0, BAD, "settled", 0).digest();
        Case last = settledAtLast(14, sentence).due(11, "settled", 0).due(1, "at", 11, 3).due(1, "heat", 10, 0, 0);
        last.digest().events(FRONT, 11, 0).due(NONE, "settled", 0).due(0, "at", 11, 3).digest();
        Case eight = Case.of(14, sentence).hooks("ssss").things("m19;m19;m19;m19;m19;m19;m19;w99");
        eight.each(Case.row(0, 0, 0, 0, 0, 0, 0, NONE), "settled").outside(0, 0, 7, BAD, "settled", 0).digest();
    }

    private static void sum() {
        String sentence = "SUM: SETTLED (what = 0), MINUTES (1), of the HOLIDAY (2), of NOTHING (3). BAD.";
        Case none = Case.of(15, sentence).outside(0, 0, 3, BAD, "sum", 0).each(Case.row(0, 0, 0, 0), "sum").digest();
        none.hooks("h").things("w19").outside(0, 0, 3, BAD, "sum", 0).each(Case.row(0, 12, 0, 12), "sum").digest();
        Case eight = Case.of(15, sentence).hooks("ssss").things("m19;m19;m19;m19;m19;m19;m19;m19");
        eight.each(Case.row(8, 96, 88, 0), "sum").digest();
        settledAtLast(15, sentence).each(Case.row(1, 20, 0, 0), "sum").digest();
    }

    private static void peace() {
        String sentence = "PEACE: the first EVENING behind which all THINGS are SETTLED; NONE.";
        Case none = Case.of(16, "PEACE; NONE.").still(0, "peace").digest();
        none.events(MAID, 0, 0, FRONT, 0, 0).still(0, "peace").hooks("hh").still(0, "peace").digest();
        Case first = Case.of(16, sentence).hooks("h").things("m10").still(0, "peace").digest();
        first.things(";w10").still(NONE, "peace").due(1, "longest").digest();
        settledAtLast(16, sentence).still(11, "peace").digest().events(FRONT, 11, 0).still(NONE, "peace").digest();
        // the last of two counts: his mother in evening 0, a quiet in evening 1
        Case two = Case.of(16, sentence).hooks("h").things("m10;q20").due(0, "settled", 0).due(1, "settled", 1);
        two.still(1, "peace").digest();
    }

    private static void longest() {
        String sentence = "LONGEST: the THING that is said in most MINUTES, of like ones the least; NONE: none ever.";
        Case none = Case.of(17, "LONGEST; NONE.").still(NONE, "longest").hooks("hh").still(NONE, "longest").digest();
        none.things("w99").still(NONE, "longest").due(24, "sum", 3).digest();
        Case like = Case.of(17, sentence).hooks("ssss").things("m19;m19;m19;m19;m19;m19;m19;m19").still(0, "longest");
        like.digest();
        // 0 and 1 have a minute each, 2 and 3 two each
        Case later = Case.of(17, sentence).hooks("sss").things("m19;m19;m29;m29").still(2, "longest").digest();
        later.due(2, "heat", 0, 2, 1).due(2, "heat", 0, 3, 1);
        Case last = Case.of(17, sentence).hooks("h").things("w99;w99;w99;w99;w99;w99;w99;m10").still(7, "longest");
        last.digest();
    }

    private static void highest() {
        String sentence = "HIGHEST of a THING: the highest HOOK at which it is ever said; NONE.";
        Case none = Case.of(18, "HIGHEST; NONE. BAD.").hooks("h").still(BAD, "highest", 0);
        none.outside(0, 0, 7, BAD, "highest", 0).digest();
        none.things("w99").still(NONE, "highest", 0).outside(0, 0, 0, BAD, "highest", 0).digest();
        Case ends = Case.of(18, sentence).hooks("hggggggggggh").things("m10;w19").still(0, "highest", 0);
        ends.still(11, "highest", 1).digest();
        // hook 1 is said ahead of hook 0, which is left
        Case left = Case.of(18, sentence).hooks("hh").things("q90").events(LEFT, 0, 0).still(1, "highest", 0).digest();
        left.due(0, "said", 0, 0);
        // only in evening 11 is hook 2 any good: it is gone, and left then
        Case last = Case.of(18, sentence).hooks("hgg").things("m52").events(LEFT, 11, 2).still(2, "highest", 0).digest();
        last.due(0, "back").still(0, "highest", 0);
        Case eight = Case.of(18, sentence).hooks("ssss").things("m19;m19;m19;m19;m19;m19;m19;m19");
        eight.each(Case.row(0, 0, 1, 1, 2, 2, 3, 3), "highest").outside(0, 0, 7, BAD, "highest", 0).digest();
    }

    private static void sore() {
        String sentence = "SORE: THINGS that are not SETTLED by EVENING 11, as bits.";
        Case none = Case.of(19, "SORE, as bits.").still(0, "sore").hooks("h").still(0, "sore").digest();
        none.things("m10").still(0, "sore").digest();
        Case all = Case.of(19, sentence).hooks(GONE).things("m10;m10;w10;w10;q10;q10;m10;w10").still(255, "sore").digest();
        all.due(12, "wipe", 0).still(255, "sore").digest();
        Case last = Case.of(19, sentence).hooks("ssss").things("m19;m19;m19;m19;m19;m19;m19;w99").still(128, "sore");
        last.digest();
        Case first = Case.of(19, sentence).hooks("ssss").things("w99;m19;m19;m19;m19;m19;m19;m19").still(1, "sore");
        first.digest();
        settledAtLast(19, sentence).still(0, "sore").events(FRONT, 11, 0).still(1, "sore").digest();
    }
}
