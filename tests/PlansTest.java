/** Promises 20 to 23, worked out by hand: swap, fit, leave, spare. */
public final class PlansTest {
    private static final int NONE = BackHooks.NONE, BAD = BackHooks.BAD;
    private static final int MAID = Checks.MAID, FRONT = Checks.FRONT, LEFT = Checks.LEFT;

    public static void main(String[] args) {
        swap();
        fit();
        leave();
        spare();
        Checks.end();
    }

    private static void swaps(BackHooks x, int... want) {
        String before = Checks.stateOf(x);
        for (int what = 0; what < 4; what++) {
            Checks.due("20: swap(" + what + ")", want[what], x.swap(what));
        }
        Checks.due("20: swap changes nothing", before, Checks.stateOf(x));
    }

    private static void swap() {
        swaps(Checks.told("h", ""), NONE, NONE, NONE, NONE);
        swaps(Checks.told("h", "m10"), NONE, NONE, NONE, NONE);
        // a minute an evening goes to the first, which is as hot the next evening, unless it is 1
        swaps(Checks.told("h", "m90;m90;m10"), 0, 2, 1, 0);
        swaps(Checks.told("h", "m90;m90;m90;m90;m90;m90;m90;m10"), 0, 7, 1, 0);
        // it is worse any way: the least row
        swaps(Checks.told("h", "m10;m90;m90"), 1, 2, 1, 0);
        swaps(Checks.told("", "m10;q90"), 0, 1, 0, 0);
        // money ahead: 9 to 5, 6 to 2, 3 to 0 in four, four and three minutes; then his mother is 4 and gets but one
        // a minute each evening. His mother ahead: settled at once, and money by 2 in the rest, 9 to 3, 4 to 0
        swaps(Checks.told("hhhh", "w90;m10"), 0, 1, 2, 40);
        BackHooks bad = Checks.told("h", "m10");
        Checks.due("20: bad ahead of none", BAD, bad.swap(4));
        Checks.due("20: bad ahead of none", BAD, bad.swap(-1));
    }

    private static void fits(int want, BackHooks x) {
        Checks.due("21: fit()", want, x.fit());
    }

    private static void fit() {
        fits(0, new BackHooks());
        fits(0, Checks.told("hhh", ""));
        fits(2, Checks.told("hhh", "m39"));
        fits(3, Checks.told("ghhh", "m39"));
        fits(NONE, Checks.told("h", "m20"));
        fits(NONE, Checks.told("", "m10"));
        fits(1, Checks.told("hh", "m10"));
        fits(11, Checks.told("ggggggggggsh", "w39"));
        fits(12, Checks.told("gggggggggggs", "w39"));
        fits(1, Checks.told("hh", "m29", LEFT, 0, 0));
        fits(2, Checks.told("hh", "m29", LEFT, 0, 1));
    }

    private static void leaves(BackHooks x, int evening, int... want) {
        String before = Checks.stateOf(x);
        for (int what = 0; what < 3; what++) {
            Checks.due("22: leave(" + evening + ", " + what + ")", want[what], x.leave(evening, what));
        }
        Checks.due("22: leave changes nothing", before, Checks.stateOf(x));
    }

    private static void leave() {
        leaves(new BackHooks(), 0, NONE, NONE, NONE);
        leaves(Checks.told("hh", "m20"), 0, 0, 1, 22);
        leaves(Checks.told("hh", "m20"), 5, 0, 1, 12);
        leaves(Checks.told("hh", "m20"), 11, 0, 1, 0);
        leaves(Checks.told("hh", "w21"), 0, 1, 1, 22);
        leaves(Checks.told("hg", "w11"), 0, 1, 1, 11);
        leaves(Checks.told("hh", "w21", MAID, 0, 0), 0, 0, 0, 0);
        leaves(Checks.told("hh", ""), 3, 0, 0, 25);
        // eight events are told, and yet one hook is left besides
        leaves(Checks.told("hh", "w21", MAID, 11, 0, MAID, 11, 0, MAID, 11, 0, MAID, 11, 0, MAID, 11, 0, MAID, 11, 0,
                MAID, 11, 0, MAID, 11, 0), 0, 1, 1, 20);
        // hook 0 is left already: to leave it once more is to leave none more; hook 1 comes behind it in two minutes
        leaves(Checks.told("hh", "m20", LEFT, 0, 0), 0, 1, 1, 24);
        leaves(Checks.told("hh", "", LEFT, 0, 0), 0, 1, 0, 26);
        BackHooks bad = new BackHooks();
        Checks.due("22: bad ahead of none", BAD, bad.leave(-1, 0));
        Checks.due("22: bad ahead of none", BAD, bad.leave(12, 0));
        Checks.due("22: bad ahead of none", BAD, bad.leave(0, 3));
        Checks.due("22: bad ahead of none", BAD, bad.leave(0, -1));
    }

    private static void spares(BackHooks x, int... want) {
        String before = Checks.stateOf(x);
        for (int i = -1; i < 2; i++) {
            Checks.due("23: spare(" + i + ")", want[i + 1], x.spare(i));
        }
        Checks.due("23: spare changes nothing", before, Checks.stateOf(x));
    }

    private static void spare() {
        spares(new BackHooks(), 0, NONE, NONE);
        spares(Checks.told("h", "m10"), 0, NONE, NONE);
        spares(Checks.told("h", "m10", FRONT, 11, 0), 0, NONE, NONE);
        spares(Checks.told("h", "m10", MAID, 0, 0), 1, 0, NONE);
        spares(Checks.told("h", "m10", FRONT, 11, 0, FRONT, 0, 0), 1, 1, NONE);
        spares(Checks.told("h", "m10", FRONT, 11, 0, MAID, 0, 0, FRONT, 11, 0, FRONT, 0, 0), 2, 1, 3);
        spares(Checks.told("h", "m10", MAID, 0, 0, MAID, 0, 0, MAID, 0, 0), NONE, NONE, NONE);
        spares(Checks.told("h", "m20"), NONE, NONE, NONE);
        spares(Checks.told("", "", MAID, 0, 0), 0, NONE, NONE);
        // two minutes an evening, so settled in evening 7, and two evenings later for each maid
        spares(Checks.told("hh", "m99", MAID, 3, 0, MAID, 4, 0), 0, NONE, NONE);
        spares(Checks.told("hh", "m99", MAID, 3, 0, MAID, 4, 0, FRONT, 11, 0), 1, 0, NONE);
        spares(Checks.told("hh", "m99", LEFT, 0, 11, MAID, 3, 0, MAID, 4, 0, MAID, 5, 0, MAID, 6, 0), 2, 1, 2);
        spares(Checks.told("hh", "m99", MAID, 3, 0, MAID, 4, 0, MAID, 5, 0, MAID, 6, 0, MAID, 7, 0), NONE, NONE, NONE);
        BackHooks bad = new BackHooks();
        Checks.due("23: spare(-2)", BAD, bad.spare(-2));
        Checks.due("23: spare(2)", BAD, bad.spare(2));
    }
}
