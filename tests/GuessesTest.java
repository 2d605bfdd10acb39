/** Promises 24 to 30, worked out by hand: seen, forget, never, was, ask, chance, seasons. */
public final class GuessesTest {
    private static final int NONE = BackHooks.NONE, BAD = BackHooks.BAD;
    private static final int MAID = Checks.MAID, FRONT = Checks.FRONT, LEFT = Checks.LEFT;

    public static void main(String[] args) {
        seen();
        forget();
        never();
        heats();
        sorts();
        ask();
        chance();
        seasons();
        Checks.end();
    }

    private static void seen() {
        BackHooks x = new BackHooks();
        int[][] bad = {{-1, 0, 0}, {12, 0, 0}, {0, -1, 0}, {0, 8, 0}, {0, 0, -1}, {0, 0, 2},
            {Integer.MAX_VALUE, 0, 0}, {0, Integer.MIN_VALUE, 0}};
        for (int[] b : bad) {
            Checks.due("24: seen of a bad number", BAD, x.seen(b[0], b[1], b[2]));
        }
        for (int i = 1; i <= 8; i++) {
            Checks.due("24: seen, " + i, i, x.seen(i % 2 == 0 ? 0 : 11, i - 1, i % 2));
        }
        Checks.due("24: a ninth", BackHooks.FULL, x.seen(0, 0, 0));
        Checks.due("24: bad ahead of full", BAD, x.seen(0, 8, 0));
        Checks.due("24: count(7)", 8, x.count(7));
    }

    private static void forget() {
        BackHooks x = Checks.told("h", "m10", MAID, 0, 0);
        x.seen(0, 0, 1);
        x.seen(1, 5, 1);
        Checks.due("25: seen of a thing that there is not", 0, x.never());
        Checks.due("25: forget()", 2, x.forget());
        Checks.due("25: count(7)", 0, x.count(7));
        Checks.due("25: nothing is seen now", 1, x.never());
        Checks.due("25: forget() once more", 0, x.forget());
        Checks.due("25: seen anew", 1, x.seen(0, 0, 1));
    }

    private static void never() {
        BackHooks x = Checks.told("h", "m10", MAID, 0, 0, FRONT, 3, 0, LEFT, 4, 5);
        Checks.due("26: nothing is seen", 7, x.never());
        x.seen(0, 0, 1);
        Checks.due("26: but for the maid it was settled at once", 1, x.never());
        x.seen(0, 0, 0);
        Checks.due("26: both cannot be", 0, x.never());
        x.forget();
        x.seen(11, 0, 0);
        Checks.due("26: not settled, so the maid was", 6, x.never());
        x.seen(11, 1, 0);
        Checks.due("26: a thing that there is not", 0, x.never());
        BackHooks none = Checks.told("h", "m10");
        Checks.due("26: of no events", 0, none.never());
        // each of the two maids alone goes on
        BackHooks two = Checks.told("h", "m10", MAID, 0, 0, MAID, 0, 1);
        two.seen(0, 0, 1);
        Checks.due("26: each alone", 0, two.never());
    }

    private static void heats() {
        BackHooks x = Checks.told("hh", "m31");
        Checks.due("27: nothing is seen", 1022, x.was(0, 0));
        x.seen(0, 0, 1);
        Checks.due("27: settled behind 0", 6, x.was(0, 0));
        x.forget();
        x.seen(1, 0, 1);
        Checks.due("27: settled behind 1", 14, x.was(0, 0));
        x.seen(0, 0, 0);
        Checks.due("27: and not behind 0", 8, x.was(0, 0));
        x.seen(0, 7, 0);
        Checks.due("27: a thing that there is not", 0, x.was(0, 0));
        Checks.due("27: was() changes nothing", 3, x.thing(0, 1));
        Checks.due("27: was(1, 0)", BAD, x.was(1, 0));
        Checks.due("27: was(-1, 0)", BAD, x.was(-1, 0));
        Checks.due("27: was(0, 2)", BAD, x.was(0, 2));
        Checks.due("27: was(0, -1)", BAD, x.was(0, -1));
        BackHooks none = new BackHooks();
        Checks.due("27: of no things", BAD, none.was(0, 0));
        Checks.due("28: of no things", BAD, none.ask(0));
    }

    private static void sorts() {
        // behind evening 0: his mother 2 minutes, money at hook 1 alone, a quiet by 1 and by 3
        BackHooks x = Checks.told("hh", "m21");
        Checks.due("27: nothing is seen", 7, x.was(0, 1));
        x.seen(0, 0, 1);
        Checks.due("27: not money", 5, x.was(0, 1));
        x.forget();
        x.seen(0, 0, 0);
        Checks.due("27: money", 2, x.was(0, 1));
        BackHooks hot = Checks.told("hh", "m41");
        hot.seen(0, 0, 1);
        Checks.due("27: a quiet", 4, hot.was(0, 1));
        Checks.due("27: was() changes nothing", 0, hot.thing(0, 0));
    }

    private static void ask() {
        // settled behind evening e are heats up to 2 and e: 4 and 5 of nine behind evening 2
        BackHooks x = Checks.told("hh", "m31");
        Checks.due("28: nothing is seen", 2, x.ask(0));
        x.seen(0, 0, 0);
        Checks.due("28: 3 to 9", 3, x.ask(0));
        x.seen(2, 0, 1);
        Checks.due("28: 3 and 4", 1, x.ask(0));
        x.seen(1, 0, 1);
        Checks.due("28: 3 alone", 0, x.ask(0));
        x.seen(0, 0, 1);
        Checks.due("28: none", 0, x.ask(0));
        Checks.due("28: ask(1)", BAD, x.ask(1));
        Checks.due("28: ask(-1)", BAD, x.ask(-1));
        // a quiet waits for his mother: behind evening 3 both are settled by 1 to 4, his mother by 5, neither by 6 to 9,
        // so 4 at most; by his mother alone it would be evening 2
        BackHooks other = Checks.told("hh", "m11;q10");
        Checks.due("28: by what else is settled", 3, other.ask(0));
        BackHooks never = Checks.told("g", "m10");
        Checks.due("28: never settled", 0, never.ask(0));
    }

    private static void chanceIs(BackHooks x, int c, long above, long below) {
        Checks.due("29: chance(" + c + ", 0, 0)", above, x.chance(c, 0, 0));
        Checks.due("29: chance(" + c + ", 0, 1)", below, x.chance(c, 0, 1));
    }

    private static void chance() {
        BackHooks x = Checks.told("h", "m10");
        chanceIs(x, 7, 1, 1);
        x.event(MAID, 0, 0);
        chanceIs(x, 0, 1, 1);
        chanceIs(x, 4, 3, 4);
        chanceIs(x, 5, 11, 16);
        chanceIs(x, 16, 0, 1);
        x.event(FRONT, 0, 0);
        chanceIs(x, 4, 9, 16);
        chanceIs(x, 8, 1, 4);
        x.event(FRONT, 11, 0);
        chanceIs(x, 4, 9, 16);
        x.back();
        x.event(LEFT, 1, 0);
        // settled unless one of the two is and hook 0 is not left; left in evening 1 it takes 2 minutes, and
        // the thing is 2 by a maid, 3 by the front: 1 - 1/2 + 1/4 * 1/2
        chanceIs(x, 8, 3, 8);
        for (int i = 0; i < 3; i++) {
            x.back();
        }
        for (int i = 0; i < 8; i++) {
            x.event(MAID, 0, i);
        }
        chanceIs(x, 1, 2562890625L, 4294967296L);
        chanceIs(x, 15, 1, 4294967296L);
        chanceIs(x, 8, 1, 256);
        BackHooks never = Checks.told("g", "m10", MAID, 0, 0);
        chanceIs(never, 3, 0, 1);
        long bad = Long.MIN_VALUE + 2;
        Checks.due("29: chance(-1, 0, 0)", bad, x.chance(-1, 0, 0));
        Checks.due("29: chance(17, 0, 0)", bad, x.chance(17, 0, 0));
        Checks.due("29: chance(0, 1, 0)", bad, x.chance(0, 1, 0));
        Checks.due("29: chance(0, -1, 0)", bad, x.chance(0, -1, 0));
        Checks.due("29: chance(0, 0, 2)", bad, x.chance(0, 0, 2));
        Checks.due("29: chance(0, 0, -1)", bad, x.chance(0, 0, -1));
    }

    private static void seasons() {
        BackHooks x = Checks.told("hhh", "m90;m90");
        String before = Checks.stateOf(x);
        Checks.due("30: no things", 0, x.seasons(5, 0, 0));
        Checks.due("30: no things", 36, x.seasons(5, 0, 1));
        // by seed 1 the lots are 16838 of 3, 38526 of 9, 10113 of 10
        seasonIs("q73", 1, 1);
        // by seed -1 they are 48697 of 3, 4409 of 9, 9862 of 10
        seasonIs("w92", -1, 1);
        seasonIs("q75;m75;m80;q87;q15;w70;m39;w96", 12345, 8);
        seasonIs("q48;w67;m52;m40;w25;q43;q36;w79", Integer.MIN_VALUE, 8);
        Checks.due("30: seasons change nothing", before, Checks.stateOf(x));
        Checks.due("30: n below 0", BAD, x.seasons(1, -1, 0));
        Checks.due("30: n above 8", BAD, x.seasons(1, 9, 0));
        Checks.due("30: another what", BAD, x.seasons(1, 1, 2));
        Checks.due("30: another what", BAD, x.seasons(1, 1, -1));
    }

    /** A season by lots is as if its things had been told. */
    private static void seasonIs(String things, int seed, int n) {
        String[] hooks = {"h", "s", "hh", "ss", "hhh", "sss", "hhhhh", "hhhhhh", "sssssss", "ssssssssssss"};
        for (String row : hooks) {
            BackHooks x = Checks.told(row, "", FRONT, 1, 0, LEFT, 2, 0);
            BackHooks like = Checks.told(row, things, FRONT, 1, 0, LEFT, 2, 0);
            Checks.due("30: seasons(" + seed + ", " + n + ", 0) by " + row, like.sum(0), x.seasons(seed, n, 0));
            Checks.due("30: seasons(" + seed + ", " + n + ", 1) by " + row, like.sum(2), x.seasons(seed, n, 1));
        }
    }
}
