/** Promises 20 to 23 at their bounds, sentence by sentence: swap, fit, leave, spare. */
public final class PlanBoundsTest {
    private static final int NONE = BackHooks.NONE, BAD = BackHooks.BAD;
    private static final int MAID = 0, FRONT = 1, LEFT = 2;
    private static final String TWELVE = "hhhhhhhhhhhh";

    public static void main(String[] args) {
        swapOfLessThanTwo();
        swapOfTwoAndOfEight();
        swapByMostSettled();
        swapByTheHoliday();
        swapOfLikeOnes();
        fitOfNone();
        fitOfAll();
        fitOfSome();
        fitAsIfNoOthersWereTold();
        leaveOfNoHooks();
        leaveInAnEvening();
        leaveOfLikeOnes();
        leaveWhatIsLeft();
        leaveBesidesEight();
        spareNone();
        spareOne();
        spareTwo();
        spareMore();
        Document.quotedAll(20, 23);
        Checks.end();
    }

    // ---- 20

    private static void swapIs(Case c, long... wants) {
        for (int what = 0; what < 4; what++) {
            c.still(wants[what], "swap", what);
        }
        c.outside(0, 0, 3, BAD, "swap", 0).digest();
    }

    private static void swapOfLessThanTwo() {
        String sentence = "SWAP: the first (what = 0), the other one (1), how many (2), MINUTES (3); NONE. BAD.";
        swapIs(Case.of(20, sentence), NONE, NONE, NONE, NONE);
        swapIs(Case.of(20, sentence).hooks("hh").events(MAID, 0, 0), NONE, NONE, NONE, NONE);
        swapIs(Case.of(20, "NONE: there are less than two.").hooks("hh").things("m19"), NONE, NONE, NONE, NONE);
        // the second is not ended, so there is none
        swapIs(Case.of(20, "NONE: there are less than two.").hooks("hh").things("m19;m1"), NONE, NONE, NONE, NONE);
        swapIs(Case.of(20, "NONE: there are less than two.").hooks("hh").things("m19;m19"), 0, 1, 2, 22);
    }

    private static final String SWAP = "SWAP: the two THINGS (the first less) that had better change places in what is "
            + "told, by which most are SETTLED, of these the HOLIDAY has most MINUTES, of like ones the least row";

    private static void swapOfTwoAndOfEight() {
        // it is worse than as it is, and is told all the same: a minute an evening goes to the hot one
        swapIs(Case.of(20, SWAP).hooks("h").things("m10;m90"), 0, 1, 0, 0);
        swapIs(Case.of(20, SWAP).hooks("h").things("m90;m10"), 0, 1, 1, 0);
        // the first and the last of eight
        swapIs(Case.of(20, SWAP).hooks("h").things("m90;m90;m90;m90;m90;m90;m90;m10"), 0, 7, 1, 0);
        // the last two of eight: then seven are settled in evening 0, and the hot one by three minutes of evening 2,
        // 9 to 2, 3 to 0; as it is that one has a minute in evening 0, and m19 three more in evening 2
        swapIs(Case.of(20, SWAP).hooks("hhhhhhh").things("m19;m19;m19;m19;m19;m19;m99;m19"), 6, 7, 8, 67);
    }

    private static void swapByMostSettled() {
        // as it is none is settled; m10 ahead is settled at once, in evening 0
        swapIs(Case.of(20, SWAP).hooks("h").things("m90;m90;m10"), 0, 2, 1, 0);
        // the first place must stay m10's
        swapIs(Case.of(20, SWAP).hooks("h").things("m10;m90;m90"), 1, 2, 1, 0);
        // all in vain by a maid in evening 0: m10 is 2 in evening 1, and a minute an evening is too few
        swapIs(Case.of(20, SWAP).hooks("h").things("m90;m90;m10").events(MAID, 0, 0), 0, 1, 0, 0);
    }

    private static void swapByTheHoliday() {
        // m10 ahead: then money by 2, 9 to 3, 4 to 0 in evening 1; the other 9 to 5, 6 to 2, 3 to 0 in evening 4, and
        // one minute of that is the holiday's, and all of evenings 5 to 11
        swapIs(Case.of(20, SWAP).hooks("hhhh").things("w90;w90;m10"), 0, 2, 3, 29);
        // all are settled in evening 0 any way: his mother ahead in 1 minute, then money by 2 in 1 and in 5; w20 ahead
        // in 2, 5 and 1; w90 ahead in 9, 1 and 1
        swapIs(Case.of(20, SWAP).hooks(TWELVE).things("w90;w20;m19"), 0, 2, 3, 137);
    }

    private static void swapOfLikeOnes() {
        swapIs(Case.of(20, SWAP).things("m10;q90;w10"), 0, 1, 0, 0);
        swapIs(Case.of(20, SWAP).hooks("hh").things("m19;m19;m19"), 0, 1, 3, 20);
        // 0 and 1 as well as 0 and 2 bring the like; of 0 and 1, 0 and 2, 1 and 2 the last is worse
        swapIs(Case.of(20, SWAP).hooks("h").things("m90;m10;m10"), 0, 1, 1, 0);
    }

    // ---- 21

    private static final String FIT = "FIT: the fewest HOOKS from the bottom (0 to all; as if no others were told) with "
            + "which all are SETTLED by EVENING 11; NONE.";

    private static void fitOfNone() {
        Case.of(21, "FIT; NONE.").still(0, "fit").digest();
        Case.of(21, FIT).hooks(TWELVE).still(0, "fit").digest();
        Case.of(21, FIT).hooks("gg").events(FRONT, 0, 0).still(0, "fit").digest();
        Case.of(21, FIT).things("m10").still(NONE, "fit").digest();
        Case.of(21, FIT).hooks("gggggggggggg").things("m19").still(NONE, "fit").digest();
        Case.of(21, FIT).hooks("h").things("m20").still(NONE, "fit").digest();
        Case.of(21, FIT).hooks("hhhhhhhhh").things("w19").still(NONE, "fit").digest();
    }

    private static void fitOfAll() {
        Case.of(21, FIT).hooks("h").things("m10").still(1, "fit").digest();
        Case.of(21, FIT).hooks("gggggggggggs").things("w39").still(12, "fit").digest();
        Case.of(21, FIT).hooks("gggggggggggh").things("w19").still(12, "fit").digest();
        Case.of(21, FIT).hooks("gggggggggggh").things("w29").still(NONE, "fit").digest();
        // settled in evening 11, and with a front then not at all
        Case last = Case.of(21, FIT).hooks("hh").things("m91").events(MAID, 3, 0, MAID, 4, 0).still(2, "fit").digest();
        last.events(FRONT, 11, 0).still(NONE, "fit").digest();
    }

    private static void fitOfSome() {
        Case.of(21, FIT).hooks(TWELVE).things("m10").still(1, "fit").digest();
        Case.of(21, FIT).hooks("ggghhh").things("m19").still(4, "fit").digest();
        // his mother is settled at hook 0 of evening 0, so money is by 2: 3 to 1 with hook 9 alone, and then never
        Case.of(21, FIT).hooks("hhhhhhhhhhhg").things("w39;m19").still(11, "fit").digest();
        Case.of(21, FIT).hooks("hhhhhhhhhhhg").things("w29;m19").still(10, "fit").digest();
        Case.of(21, FIT).hooks(TWELVE).things("m50;q10").still(NONE, "fit").digest();
    }

    private static void fitAsIfNoOthersWereTold() {
        // with one hook it is the last, where a quiet goes by 3: 9, 6, 7, 4, and so on
        Case.of(21, FIT).hooks(TWELVE).things("q90").still(1, "fit").digest();
        // the left one is above those that do
        Case.of(21, FIT).hooks("hh").things("m10").events(LEFT, 0, 1).still(1, "fit").digest();
        // the left one is among them, and only by that it is settled
        Case.of(21, FIT).hooks("hh").things("m20").events(LEFT, 0, 0).still(1, "fit").digest();
        Case.of(21, FIT).hooks("hg").things("m21").events(LEFT, 0, 1).still(2, "fit").digest();
    }

    // ---- 22

    private static final String LEAVE = "LEAVE in an EVENING: the HOOK that had better be LEFT besides in it, by which most "
            + "are SETTLED, of these the HOLIDAY has most MINUTES, of like ones the least";

    private static void leaveIs(Case c, int evening, long... wants) {
        for (int what = 0; what < 3; what++) {
            c.still(wants[what], "leave", evening, what);
        }
        c.digest();
    }

    private static void leaveOfNoHooks() {
        String sentence = "LEAVE: which (what = 0), how many (1), MINUTES (2); NONE. BAD.";
        Case none = Case.of(22, sentence);
        none.outside(0, 0, 11, BAD, "leave", 0, 0).outside(1, 0, 2, BAD, "leave", 0, 0);
        none.outside(0, 0, 11, BAD, "leave", 0, 3);
        leaveIs(none, 0, NONE, NONE, NONE);
        leaveIs(none, 11, NONE, NONE, NONE);
        Case c = Case.of(22, sentence).hooks("h").things("m20");
        c.outside(0, 0, 11, BAD, "leave", 0, 0).outside(1, 0, 2, BAD, "leave", 0, 0);
        leaveIs(c, 0, 0, 1, 11);
        leaveIs(Case.of(22, "NONE: there are no HOOKS.").things("m10"), 0, NONE, NONE, NONE);
        // with a fault it is as if there were none
        leaveIs(Case.of(22, "NONE: there are no HOOKS.").hooks("hx").things("m10"), 5, NONE, NONE, NONE);
    }

    private static void leaveInAnEvening() {
        // a minute an evening keeps 2 at 2; by one more it is settled, in that evening, and the rest is the holiday's
        for (int e = 0; e < 12; e++) {
            leaveIs(Case.of(22, LEAVE).hooks("h").things("m20"), e, 0, 1, 11 - e);
        }
        // all are gone, and one that is left takes a minute: money can be said at hook 1 alone
        leaveIs(Case.of(22, LEAVE).hooks("gg").things("w11"), 0, 1, 1, 0);
        // of twelve hooks the lowest nine are too low for money
        leaveIs(Case.of(22, LEAVE).hooks("gggggggggggg").things("w19"), 0, 9, 1, 0);
        // a minute an evening, at hook 10, keeps 2 at 2; hooks 9, 10 and 11 bring one more
        leaveIs(Case.of(22, LEAVE).hooks("hhhhhhhhhghg").things("w29"), 11, 9, 1, 0);
    }

    private static void leaveOfLikeOnes() {
        leaveIs(Case.of(22, LEAVE).hooks(TWELVE), 0, 0, 0, 145);
        leaveIs(Case.of(22, LEAVE).hooks("gg").things("w19"), 11, 0, 0, 0);
        // by a maid, by the front none takes a minute, so it is the least
        leaveIs(Case.of(22, LEAVE).hooks("hhh").things("m20").events(MAID, 0, 0), 0, 0, 0, 0);
        leaveIs(Case.of(22, LEAVE).hooks("hhh").events(FRONT, 11, 0), 11, 0, 0, 33);
    }

    private static void leaveWhatIsLeft() {
        // "besides": it may be one that is left already, which is to leave no other
        leaveIs(Case.of(22, LEAVE).hooks("h").things("m20").events(LEFT, 0, 0), 0, 0, 1, 11);
        // left as well hook 1 brings a minute more
        leaveIs(Case.of(22, LEAVE).hooks("hh").events(LEFT, 0, 0), 0, 1, 0, 26);
        // both are left already
        leaveIs(Case.of(22, LEAVE).hooks("hh").events(LEFT, 0, 1, LEFT, 0, 0), 0, 0, 0, 26);
        // nothing helps, so it is the least, though that is left already
        leaveIs(Case.of(22, LEAVE).hooks("hh").things("w99").events(LEFT, 0, 0), 0, 0, 0, 0);
        // hook 0 in two minutes, then hook 1 in two by 3: 8, 7, 6, 3, 0; as it is 7, 4, 1
        leaveIs(Case.of(22, LEAVE).hooks("hh").things("q80").events(LEFT, 0, 1), 0, 0, 1, 22);
    }

    private static void leaveBesidesEight() {
        Case c = Case.of(22, LEAVE).hooks("h").things("m20");
        for (int i = 0; i < 8; i++) {
            c.events(LEFT, 1 + i, 11);
        }
        c.due(BackHooks.FULL, "event", LEFT, 0, 0);
        leaveIs(c, 0, 0, 1, 11);
        c.due(8, "count", 4);
    }

    // ---- 23

    private static void spareIs(Case c, long howMany, long first, long second) {
        c.still(howMany, "spare", NONE).still(first, "spare", 0).still(second, "spare", 1);
        c.outside(0, NONE, 1, BAD, "spare", 0).digest();
    }

    private static final String SPARE = "SPARE: the fewest EVENTS (0 to 2) that had better not be, so that all are SETTLED, "
            + "of like ones the least row (each more than the one ahead): how many; the i-th; NONE.";

    private static void spareNone() {
        String sentence = "SPARE: how many (i = NONE), the i-th (0, 1; NONE); NONE. BAD.";
        spareIs(Case.of(23, sentence), 0, NONE, NONE);
        spareIs(Case.of(23, sentence).hooks("h").things("m10"), 0, NONE, NONE);
        spareIs(Case.of(23, sentence).events(MAID, 0, 0, FRONT, 0, 0), 0, NONE, NONE);
        // settled at once, whatever comes later
        spareIs(Case.of(23, SPARE).hooks("h").things("m10").events(FRONT, 1, 0, MAID, 11, 0), 0, NONE, NONE);
        // no event at all, and yet not settled
        spareIs(Case.of(23, SPARE).hooks("h").things("m20"), NONE, NONE, NONE);
        spareIs(Case.of(23, SPARE).things("m10"), NONE, NONE, NONE);
    }

    private static void spareOne() {
        spareIs(Case.of(23, SPARE).hooks("h").things("m10").events(MAID, 0, 0), 1, 0, NONE);
        spareIs(Case.of(23, SPARE).hooks("h").things("m10").events(MAID, 1, 0, FRONT, 0, 0), 1, 1, NONE);
        Case eighth = Case.of(23, SPARE).hooks("h").things("m10");
        for (int i = 0; i < 7; i++) {
            eighth.events(LEFT, i, 11);
        }
        spareIs(eighth.events(MAID, 0, 0), 1, 7, NONE);
        // without the first, without the second, without the third it is settled in evening 11: the least
        spareIs(Case.of(23, SPARE).hooks("hh").things("m91").events(MAID, 3, 0, MAID, 4, 0, MAID, 5, 0), 1, 0, NONE);
    }

    private static void spareTwo() {
        spareIs(Case.of(23, SPARE).hooks("h").things("m10").events(MAID, 0, 0, FRONT, 0, 0), 2, 0, 1);
        Case last = Case.of(23, SPARE).hooks("h").things("m10");
        for (int i = 0; i < 6; i++) {
            last.events(LEFT, i, 11);
        }
        spareIs(last.events(MAID, 0, 0, MAID, 0, 0), 2, 6, 7);
        Case ends = Case.of(23, SPARE).hooks("h").things("m10").events(FRONT, 0, 0);
        for (int i = 0; i < 6; i++) {
            ends.events(MAID, 5, 0);
        }
        spareIs(ends.events(MAID, 0, 0), 2, 0, 7);
        // any two of the four: the least row
        spareIs(Case.of(23, SPARE).hooks("hh").things("m91").events(MAID, 3, 0, MAID, 4, 0, MAID, 5, 0, MAID, 6, 0),
                2, 0, 1);
    }

    private static void spareMore() {
        spareIs(Case.of(23, SPARE).hooks("h").things("m10").events(MAID, 0, 0, MAID, 0, 1, FRONT, 0, 0), NONE, NONE, NONE);
        Case eight = Case.of(23, SPARE).hooks("h").things("m10");
        for (int i = 0; i < 8; i++) {
            eight.events(MAID, 0, i);
        }
        spareIs(eight, NONE, NONE, NONE);
    }
}
