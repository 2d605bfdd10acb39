/** Promises 11 to 19, worked out by hand: what is said in an evening, and what comes of all of them. */
public final class EveningsTest {
    private static final int NONE = BackHooks.NONE, BAD = BackHooks.BAD, HOLIDAY = 8, NOTHING = 9;

    public static void main(String[] args) {
        settledAtOnce();
        motherAndMarks();
        moneyAndMarks();
        moneyBehindAnythingSettled();
        theFirstThatCanBeSaid();
        quiets();
        hooksLeft();
        maids();
        fronts();
        hottest();
        longestOfLikeOnes();
        nothingTold();
        badNumbers();
        Checks.end();
    }

    private static void at(BackHooks x, int evening, int... want) {
        for (int what = 0; what < 4; what++) {
            Checks.due("13: at(" + evening + ", " + what + ")", want[what], x.at(evening, what));
        }
    }

    private static void sums(BackHooks x, int... want) {
        for (int what = 0; what < 4; what++) {
            Checks.due("15: sum(" + what + ")", want[what], x.sum(what));
        }
        Checks.due("37: count(5)", want[0], x.count(5));
        Checks.due("37: count(6)", want[2], x.count(6));
    }

    private static void said(BackHooks x, int evening, int... want) {
        for (int k = 0; k < want.length; k++) {
            Checks.due("12: said(" + evening + ", " + k + ")", want[k], x.said(evening, k));
        }
    }

    private static void heat(BackHooks x, int evening, int thing, int heat, int minutes) {
        Checks.due("11: heat(" + evening + ", " + thing + ", 0)", heat, x.heat(evening, thing, 0));
        Checks.due("11: heat(" + evening + ", " + thing + ", 1)", minutes, x.heat(evening, thing, 1));
    }

    private static void settledAtOnce() {
        BackHooks x = Checks.told("hs", "m31");
        said(x, 0, 0, 0);
        heat(x, 0, 0, 0, 3);
        at(x, 0, 3, 0, 0, 1);
        said(x, 1, HOLIDAY, HOLIDAY);
        heat(x, 1, 0, 0, 0);
        at(x, 11, 3, 3, 0, 0);
        sums(x, 1, 36, 33, 0);
        Checks.due("14: settled(0)", 0, x.settled(0));
        Checks.due("16: peace()", 0, x.peace());
        Checks.due("17: longest()", 0, x.longest());
        Checks.due("18: highest(0)", 1, x.highest(0));
        Checks.due("19: sore()", 0, x.sore());
    }

    private static void motherAndMarks() {
        BackHooks x = Checks.told("hh", "m50");
        said(x, 0, 0, NOTHING);
        for (int e = 0; e < 12; e++) {
            heat(x, e, 0, 4, 1);
            at(x, e, 2, 0, 1, 0);
        }
        sums(x, 0, 24, 0, 12);
        Checks.due("14: settled(0)", NONE, x.settled(0));
        Checks.due("16: peace()", NONE, x.peace());
        Checks.due("18: highest(0)", 0, x.highest(0));
        Checks.due("19: sore()", 1, x.sore());
    }

    private static void moneyAndMarks() {
        BackHooks x = Checks.told("hhh", "w11");
        said(x, 0, NOTHING, 0, HOLIDAY);
        at(x, 0, 3, 1, 1, 1);
        Checks.due("18: highest(0)", 1, x.highest(0));
        BackHooks above = Checks.told("hhh", "w13");
        said(above, 0, NOTHING, NOTHING, NOTHING);
        Checks.due("17: longest()", NONE, above.longest());
        Checks.due("18: highest(0)", NONE, above.highest(0));
        Checks.due("11: heat(11, 0, 0)", 9, above.heat(11, 0, 0));
    }

    private static void moneyBehindAnythingSettled() {
        BackHooks x = Checks.told("hhh", "m10;w50");
        said(x, 0, 0, 1, 1);
        heat(x, 0, 1, 1, 2);
        at(x, 0, 3, 0, 0, 1);
        // in evening 1 nothing is settled as yet: 2, then 1, then 0, each by 1
        said(x, 1, 1, 1, HOLIDAY);
        heat(x, 1, 1, 0, 2);
        at(x, 1, 3, 1, 0, 1);
        Checks.due("14: settled(1)", 1, x.settled(1));
        Checks.due("16: peace()", 1, x.peace());
        sums(x, 2, 36, 31, 0);
        Checks.due("17: longest()", 1, x.longest());
    }

    private static void theFirstThatCanBeSaid() {
        BackHooks x = Checks.told("hhh", "q90;w91;m91;w90");
        said(x, 0, 2, 1, 1);
        heat(x, 0, 0, 9, 0);
        heat(x, 0, 1, 7, 2);
        heat(x, 0, 2, 8, 1);
        heat(x, 0, 3, 9, 0);
        // thing 1 is 1 less each evening, so 0 in evening 7, and thing 3 comes at hooks 1 and 2
        Checks.due("14: settled(1)", 7, x.settled(1));
        Checks.due("18: highest(3)", 2, x.highest(3));
        Checks.due("18: highest(0)", NONE, x.highest(0));
        Checks.due("19: sore()", 13, x.sore());
    }

    private static void quiets() {
        BackHooks x = Checks.told("hh", "q50");
        heat(x, 0, 0, 1, 2);
        heat(x, 1, 0, 0, 2);
        Checks.due("14: settled(0)", 1, x.settled(0));
        BackHooks gone = Checks.told("hg", "q30");
        said(gone, 0, 0, NONE);
        Checks.due("14: by 3 at the last that takes a minute", 0, gone.settled(0));
        BackHooks stiff = Checks.told("hs", "q70");
        Checks.due("14: by 3 in both minutes of the last", 0, stiff.settled(0));
        BackHooks first = Checks.told("h", "q90;q10");
        heat(first, 0, 0, 6, 1);
        heat(first, 0, 1, 1, 0);
        BackHooks behind = Checks.told("hh", "q90;m10");
        said(behind, 0, 1, 0);
        heat(behind, 0, 0, 6, 1);
    }

    private static void hooksLeft() {
        BackHooks gone = Checks.told("hg", "q90", Checks.LEFT, 0, 1);
        heat(gone, 0, 0, 5, 2);
        said(gone, 0, 0, 0);
        at(gone, 0, 2, 0, 0, 0);
        BackHooks behind = Checks.told("hh", "m90", Checks.LEFT, 0, 0);
        said(behind, 0, 0, NOTHING);
        at(behind, 0, 3, 0, 1, 0);
        heat(behind, 0, 0, 7, 2);
        behind.event(Checks.LEFT, 0, 0);
        at(behind, 0, 3, 0, 1, 0);
        behind.event(Checks.LEFT, 0, 2);
        behind.event(Checks.LEFT, 0, 11);
        at(behind, 0, 3, 0, 1, 0);
        at(behind, 1, 2, 0, 1, 0);
        // hooks 2 and 0 are left: done are 1, then 0 in two minutes, then 2 in three
        BackHooks two = Checks.told("hhs", "q90;w91", Checks.LEFT, 3, 2, Checks.LEFT, 3, 0, Checks.MAID, 0, 0,
                Checks.MAID, 1, 0, Checks.MAID, 2, 0);
        said(two, 3, 0, 1, 1);
        heat(two, 3, 0, 7, 2);
        heat(two, 3, 1, 5, 4);
        at(two, 3, 6, 0, 0, 0);
        // a quiet by 3 at hook 0, which is the last though not the highest
        BackHooks last = Checks.told("hh", "q90", Checks.LEFT, 0, 0);
        heat(last, 0, 0, 2, 3);
        Checks.due("18: highest(0)", 1, last.highest(0));
    }

    private static void maids() {
        BackHooks x = Checks.told("h", "m50", Checks.MAID, 0, 7, Checks.MAID, 11, 0, Checks.LEFT, 0, 0);
        at(x, 0, 0, 0, 0, 0);
        said(x, 0, NONE);
        heat(x, 0, 0, 5, 0);
        heat(x, 1, 0, 5, 1);
        heat(x, 10, 0, 5, 1);
        heat(x, 11, 0, 6, 0);
        sums(x, 0, 10, 0, 0);
    }

    private static void fronts() {
        BackHooks x = Checks.told("h", "m50;q19", Checks.FRONT, 0, 3);
        heat(x, 0, 0, 6, 0);
        heat(x, 0, 1, 2, 0);
        said(x, 0, NONE);
        x.event(Checks.FRONT, 0, 4);
        heat(x, 0, 0, 6, 0);
        x.event(Checks.MAID, 0, 4);
        heat(x, 0, 0, 6, 0);
        heat(x, 1, 0, 6, 1);
        heat(x, 1, 1, 3, 0);
        BackHooks settled = Checks.told("hh", "m19;q90", Checks.FRONT, 1, 0);
        heat(settled, 0, 0, 0, 1);
        heat(settled, 1, 0, 0, 0);
        heat(settled, 0, 1, 6, 1);
        heat(settled, 1, 1, 8, 0);
        BackHooks holiday = Checks.told("h", "", Checks.FRONT, 1, 0);
        sums(holiday, 0, 11, 11, 0);
    }

    private static void hottest() {
        BackHooks x = Checks.told("g", "m90;w10", Checks.FRONT, 4, 0);
        heat(x, 0, 0, 9, 0);
        heat(x, 11, 0, 9, 0);
        heat(x, 3, 1, 4, 0);
        heat(x, 4, 1, 6, 0);
        heat(x, 7, 1, 9, 0);
        heat(x, 11, 1, 9, 0);
        at(x, 0, 0, 0, 0, 0);
    }

    private static void longestOfLikeOnes() {
        BackHooks x = Checks.told("hh", "m19;m19");
        Checks.due("17: longest() of like ones", 0, x.longest());
        BackHooks later = Checks.told("h", "m10;w10");
        Checks.due("17: longest()", 1, later.longest());
        Checks.due("16: peace() of one that is not settled", NONE, later.peace());
        Checks.due("19: sore()", 2, later.sore());
    }

    private static void nothingTold() {
        BackHooks x = new BackHooks();
        sums(x, 0, 0, 0, 0);
        Checks.due("16: peace() of no things", 0, x.peace());
        Checks.due("17: longest() of no things", NONE, x.longest());
        Checks.due("19: sore() of no things", 0, x.sore());
        BackHooks fault = Checks.told("hh", "m10;");
        sums(fault, 0, 24, 24, 0);
        said(fault, 0, HOLIDAY, HOLIDAY);
        BackHooks most = Checks.told("ssssssssssss", "m90;m90;m90;m90;m90;m90;m90;q90");
        Checks.due("13: at(11, 0)", 24, most.at(11, 0));
        BackHooks sore = Checks.told("gggggggggggg", "m10;m10;m10;w10;w10;w10;q10;q10");
        Checks.due("19: sore()", 255, sore.sore());
    }

    private static void badNumbers() {
        BackHooks x = Checks.told("hh", "m10;q20");
        int[] noEvening = {-1, 12, Integer.MIN_VALUE, Integer.MAX_VALUE};
        for (int e : noEvening) {
            Checks.due("11: heat of no evening", BAD, x.heat(e, 0, 0));
            Checks.due("12: said of no evening", BAD, x.said(e, 0));
            Checks.due("13: at of no evening", BAD, x.at(e, 0));
        }
        int[] none = {-1, 2, 8, Integer.MIN_VALUE, Integer.MAX_VALUE};
        for (int t : none) {
            Checks.due("11: heat of no thing", BAD, x.heat(0, t, 0));
            Checks.due("12: said of no hook", BAD, x.said(0, t));
            Checks.due("14: settled of no thing", BAD, x.settled(t));
            Checks.due("18: highest of no thing", BAD, x.highest(t));
        }
        Checks.due("11: heat of another what", BAD, x.heat(0, 0, 2));
        Checks.due("11: heat of another what", BAD, x.heat(0, 0, -1));
        Checks.due("13: at of another what", BAD, x.at(0, 4));
        Checks.due("13: at of another what", BAD, x.at(0, -1));
        Checks.due("15: sum of another what", BAD, x.sum(4));
        Checks.due("15: sum of another what", BAD, x.sum(-1));
    }
}
