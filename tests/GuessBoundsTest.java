/** Promises 24 to 30 at their bounds, sentence by sentence: seen, never, was, ask, chance, seasons. */
public final class GuessBoundsTest {
    private static final int BAD = BackHooks.BAD, FULL = BackHooks.FULL;
    private static final int MAID = 0, FRONT = 1, LEFT = 2;
    private static final int LEAST = Integer.MIN_VALUE, MOST = Integer.MAX_VALUE;
    private static final String EIGHT = "m19;m19;m19;m19;m19;m19;m19;m19";

    public static void main(String[] args) {
        numbersSeen();
        eightAndANinth();
        thingsThatThereAreNot();
        forget();
        never();
        neverOfEight();
        heats();
        sorts();
        numbersOfWas();
        ask();
        askAtTheEnds();
        chanceNumbers();
        chanceAtTheEnds();
        chanceInLowestTerms();
        chanceOfEight();
        seasonNumbers();
        seasonsOfNone();
        seasonsByEachSeed();
        seasonsInPlaceOfThoseTold();
        Document.quotedAll(24, 30);
        Checks.end();
    }

    // ---- 24

    private static void numbersSeen() {
        String sentence = "SEEN more: how many. BAD; FULL.";
        Case c = Case.of(24, sentence).hooks("h").things("m10").events(MAID, 0, 0);
        c.outside(0, 0, 11, BAD, "seen", 0, 0, 0).outside(1, 0, 7, BAD, "seen", 0, 0, 0);
        c.outside(2, 0, 1, BAD, "seen", 0, 0, 0).outside(0, 0, 11, BAD, "seen", 0, 8, 2).due(0, "count", 7);
        c.due(1, "seen", 0, 0, 0).due(2, "seen", 11, 0, 0).due(3, "seen", 0, 7, 1).due(4, "seen", 11, 7, 1).digest();
        c.outside(1, 0, 7, BAD, "seen", 0, 0, 0).due(4, "count", 7);
    }

    private static void eightAndANinth() {
        Case c = Case.of(24, "SEEN, 8 at most: behind an EVENING a THING").hooks("h").things("m10").events(MAID, 0, 0);
        c.due(0, "count", 7).digest();
        for (int i = 1; i <= 8; i++) {
            c.due(i, "seen", i == 8 ? 0 : 11, 0, i == 8 ? 1 : 0);
        }
        // the eighth is seen as well: it tells against the seven others
        c.due(8, "count", 7).due(0, "never").due(0, "was", 0, 0).digest();
        c.still(FULL, "seen", 0, 0, 0).still(FULL, "seen", 11, 7, 1);
        c.outside(0, 0, 11, BAD, "seen", 0, 0, 0).outside(1, 0, 7, BAD, "seen", 0, 0, 0);
        c.outside(2, 0, 1, BAD, "seen", 0, 0, 0).due(8, "forget").due(1, "seen", 11, 0, 0).digest();
        // seven and the ninth, which was refused, are as if they were not
        c.due(0, "never").due(0, "back").events(FRONT, 0, 0, LEFT, 0, 5).due(2, "never").digest();
    }

    private static void thingsThatThereAreNot() {
        String sentence = "(0 to 7; of one that there is not neither ever comes out so)";
        for (int is = 0; is < 2; is++) {
            Case c = Case.of(24, sentence).hooks("h").things("m10").events(MAID, 5, 0);
            c.due(1, "never").due(1022, "was", 0, 0).due(7, "was", 0, 1);
            c.due(1, "seen", 11, 1, is).due(0, "never").due(0, "was", 0, 0).due(0, "was", 0, 1).due(0, "ask", 0).digest();
            // as soon as there is such a thing it can come out: money, which by a minute an evening is never settled
            c.things(";w10").due(is == 0 ? 1 : 0, "never").digest();
        }
        Case later = Case.of(24, sentence).hooks("hh").events(MAID, 5, 0).due(1, "seen", 0, 0, 1).due(0, "never");
        later.things("m10").due(1, "never").due(2, "undo", 1).due(0, "never").digest();
        Case eighth = Case.of(24, sentence).hooks("ssss").things(EIGHT).events(MAID, 5, 0).due(1, "seen", 0, 7, 1);
        eighth.due(1, "never").due(2, "was", 7, 0).digest();
        eighth.due(30, "undo", 1).due(0, "never").digest();
    }

    // ---- 25

    private static void forget() {
        String sentence = "All SEEN are forgotten: how many.";
        Case c = Case.of(25, sentence).hooks("h").things("m10").events(MAID, 0, 0).still(0, "forget").digest();
        c.due(1, "seen", 11, 0, 0).due(0, "never").due(1, "forget").due(0, "count", 7).due(1, "never");
        c.isLike(Case.of(25, sentence).hooks("h").things("m10").events(MAID, 0, 0));
        for (int i = 1; i <= 8; i++) {
            c.due(i, "seen", 11, 7, 0);
        }
        c.due(8, "forget").still(0, "forget").due(1022, "was", 0, 0).due(1, "seen", 0, 0, 0).digest();
    }

    // ---- 26

    private static void never() {
        String sentence = "NEVER: EVENTS each of which, had it alone not been, makes all that was SEEN come out so, as bits.";
        Case none = Case.of(26, "NEVER, as bits.").still(0, "never").due(1, "seen", 0, 0, 0).still(0, "never").digest();
        none.due(1, "forget").hooks("h").things("m10").still(0, "never").digest();
        // nothing is seen, so all of it comes out
        Case unseen = Case.of(26, sentence).hooks("h").things("m10").events(MAID, 0, 0).still(1, "never").digest();
        unseen.due(1, "seen", 0, 0, 1).still(1, "never").due(2, "seen", 0, 0, 0).still(0, "never").digest();
        // each alone: with the other one he is silent all the same
        Case both = Case.of(26, sentence).hooks("h").things("m10").events(MAID, 0, 0, FRONT, 0, 0);
        both.due(1, "seen", 0, 0, 1).still(0, "never").due(1, "forget").due(1, "seen", 0, 0, 0).still(3, "never").digest();
        // "had it not been": what is so as it is tells nothing of it
        Case one = Case.of(26, sentence).hooks("h").things("m10").events(MAID, 11, 0, MAID, 0, 0);
        one.due(1, "seen", 11, 0, 0).still(1, "never").due(1, "forget").due(1, "seen", 11, 0, 1).still(2, "never").digest();
    }

    private static void neverOfEight() {
        String sentence = "NEVER: EVENTS each of which, had it alone not been, makes all that was SEEN come out so, as bits.";
        Case c = Case.of(26, sentence).hooks("h").things("m10");
        for (int i = 0; i < 7; i++) {
            c.events(LEFT, 11, 11);
        }
        c.still(127, "never").events(MAID, 0, 0).still(255, "never").digest();
        c.due(1, "seen", 0, 0, 1).still(128, "never").due(1, "forget").due(1, "seen", 0, 0, 0).still(127, "never").digest();
    }

    // ---- 27

    private static final String HEATS = "HEATS of a THING: 1 to 9 at first, in place of its own, likewise, as bits (bit 1 on).";

    private static void heats() {
        // with hook 0 alone but 1 is settled, by 2 minutes an evening 9 is settled in evening 7, 8 in evening 6
        Case one = Case.of(27, HEATS).hooks("h").things("m90").still(1022, "was", 0, 0).due(1, "seen", 0, 0, 1);
        one.still(2, "was", 0, 0).due(1, "forget").due(1, "seen", 11, 0, 0).still(1020, "was", 0, 0).digest();
        Case nine = Case.of(27, HEATS).hooks("hh").things("m11").due(1, "seen", 6, 0, 0).still(512, "was", 0, 0).digest();
        nine.due(2, "seen", 7, 0, 1).still(512, "was", 0, 0).due(3, "seen", 7, 0, 0).still(0, "was", 0, 0).digest();
        Case eight = Case.of(27, HEATS).hooks("hh").things("m11").due(1, "seen", 5, 0, 0).due(2, "seen", 6, 0, 1);
        eight.still(256, "was", 0, 0).digest();
        // of another thing's heat what is seen of this one can tell: the quiet is settled behind his mother
        Case other = Case.of(27, HEATS).hooks("h").things("m10;q10").due(1, "seen", 1, 1, 1).still(2, "was", 0, 0);
        other.digest();
        Case last = Case.of(27, HEATS).hooks("ssss").things(EIGHT).due(1, "seen", 0, 7, 0).still(1020, "was", 7, 0);
        last.digest();
    }

    private static void sorts() {
        String sentence = "SORT of a THING: 0 m, 1 w, 2 q, in place of its own, likewise, as bits.";
        // behind evening 0: his mother 2 less, money, at hook 1 alone, 1 less, a quiet 4 less
        Case none = Case.of(27, sentence).hooks("hh").things("m21").still(7, "was", 0, 1).due(1, "seen", 0, 0, 1);
        none.still(5, "was", 0, 1).due(1, "forget").due(1, "seen", 0, 0, 0).still(2, "was", 0, 1).digest();
        Case quiet = Case.of(27, sentence).hooks("hh").things("w41").due(1, "seen", 0, 0, 1).still(4, "was", 0, 1).digest();
        quiet.due(2, "seen", 0, 0, 0).still(0, "was", 0, 1).digest();
        // a quiet waits for the other one; money cannot be said below hook 5, his mother not above hook 0
        Case mother = Case.of(27, sentence).hooks("h").things("q15;m95").due(1, "seen", 0, 0, 1).still(1, "was", 0, 1);
        mother.digest();
        Case money = Case.of(27, sentence).hooks("gh").things("q10;m95").due(1, "seen", 0, 0, 1).still(2, "was", 0, 1);
        money.digest();
    }

    private static void numbersOfWas() {
        String sentence = "HEATS (what = 0), SORT (1), as bits. BAD.";
        Case none = Case.of(27, sentence).hooks("h").still(BAD, "was", 0, 0).outside(0, 0, 7, BAD, "was", 0, 0).digest();
        none.things("m10").outside(0, 0, 0, BAD, "was", 0, 0).outside(1, 0, 1, BAD, "was", 0, 0);
        none.outside(0, 0, 0, BAD, "was", 0, 2).still(1022, "was", 0, 0).still(7, "was", 0, 1).digest();
        Case eight = Case.of(27, sentence).hooks("ssss").things(EIGHT).still(1022, "was", 7, 0).still(7, "was", 7, 1);
        eight.outside(0, 0, 7, BAD, "was", 0, 1).digest();
    }

    // ---- 28

    private static final String ASK = "ASK of a THING: the EVENING behind which the greatest number of those of HEATS by which "
            + "the like THINGS are SETTLED is least, of like ones the least.";

    private static void ask() {
        Case none = Case.of(28, "ASK. BAD.").hooks("h").still(BAD, "ask", 0).outside(0, 0, 7, BAD, "ask", 0).digest();
        none.things("m10").outside(0, 0, 0, BAD, "ask", 0).still(0, "ask", 0).digest();
        Case eight = Case.of(28, "ASK. BAD.").hooks("ssss").things(EIGHT).outside(0, 0, 7, BAD, "ask", 0).digest();
        eight.due(30, "undo", 1).still(BAD, "ask", 0).still(BAD, "ask", 7);
    }

    private static void askAtTheEnds() {
        // no heats are left: in each evening the greatest number is 0
        Case c = Case.of(28, ASK).hooks("hh").things("m11").due(1, "seen", 0, 0, 0).due(2, "seen", 0, 0, 1);
        c.due(0, "was", 0, 0).still(0, "ask", 0).digest();
        // one is left: it is 1 in each
        Case one = Case.of(28, ASK).hooks("hh").things("m11").due(1, "seen", 6, 0, 0).still(0, "ask", 0).digest();
        one.due(512, "was", 0, 0);
        // no hook takes a minute: it is 9 in each
        Case never = Case.of(28, ASK).hooks("g").things("m11").still(0, "ask", 0).digest();
        never.due(1022, "was", 0, 0);
        // 1 to 9 are settled behind evenings 0, 0, 1, 2 .. 7: behind 2 four are, behind 3 five: of like ones the least
        Case nine = Case.of(28, ASK).hooks("hh").things("m11").still(2, "ask", 0).digest();
        nine.due(1, "seen", 0, 0, 0).still(3, "ask", 0).digest();
        // by three maids and one minute more 8 is settled in evening 11, 9 is not, and 7 in evening 10
        Case last = Case.of(28, ASK).hooks("hh").things("m91").events(MAID, 3, 0, MAID, 4, 0, MAID, 5, 0, LEFT, 0, 0);
        last.due(1, "seen", 10, 0, 0).due(768, "was", 0, 0).still(11, "ask", 0).digest();
        // by the like things, not by this one alone, which would be evening 2: behind evening 3 both are settled by 1 to
        // 4, his mother alone by 5, neither by 6 to 9
        Case others = Case.of(28, ASK).hooks("hh").things("m11;q10").still(3, "ask", 0).digest();
        others.due(1022, "was", 0, 0);
    }

    // ---- 29

    private static final long BAD_LONG = Long.MIN_VALUE + 2;
    private static final String CHANCE = "CHANCE: each of EVENTS is by c sixteenths (0 to 16), by itself: the chance that a "
            + "THING is SETTLED by EVENING 11: a FRACTION.";

    private static void chanceIs(Case c, int sixteenths, int thing, long above, long below) {
        c.still(above, "chance", sixteenths, thing, 0).still(below, "chance", sixteenths, thing, 1);
    }

    private static void chanceNumbers() {
        String sentence = "CHANCE: above, below. BAD. (As the least long.)";
        Case none = Case.of(29, sentence).hooks("h").still(BAD_LONG, "chance", 0, 0, 0);
        none.outside(1, 0, 7, BAD_LONG, "chance", 0, 0, 0).digest();
        none.things("m10").events(MAID, 0, 0).outside(0, 0, 16, BAD_LONG, "chance", 0, 0, 0);
        none.outside(1, 0, 0, BAD_LONG, "chance", 0, 0, 0).outside(2, 0, 1, BAD_LONG, "chance", 0, 0, 0);
        none.outside(0, 0, 16, BAD_LONG, "chance", 0, 1, 2).digest();
        Case least = Case.of(29, "Where the answer is a long, a refusal -x is the least long and x more.");
        least.still(-9223372036854775806L, "chance", 0, 0, 0).still(-9223372036854775806L, "chance", 17, 0, 0).digest();
        Case eight = Case.of(29, sentence).hooks("ssss").things(EIGHT);
        eight.outside(1, 0, 7, BAD_LONG, "chance", 16, 0, 1);
        chanceIs(eight, 16, 7, 1, 1);
        eight.digest();
    }

    private static void chanceAtTheEnds() {
        Case c = Case.of(29, CHANCE).hooks("h").things("m10;w19").events(MAID, 0, 0);
        chanceIs(c, 0, 0, 1, 1);
        chanceIs(c, 1, 0, 15, 16);
        chanceIs(c, 15, 0, 1, 16);
        chanceIs(c, 16, 0, 0, 1);
        // money never is
        chanceIs(c, 0, 1, 0, 1);
        chanceIs(c, 7, 1, 0, 1);
        c.digest();
        // without any event
        Case none = Case.of(29, CHANCE).hooks("h").things("m10;w19");
        for (int sixteenths = 0; sixteenths <= 16; sixteenths += 16) {
            chanceIs(none, sixteenths, 0, 1, 1);
            chanceIs(none, sixteenths, 1, 0, 1);
        }
        none.digest();
        // settled only by an event
        Case by = Case.of(29, CHANCE).hooks("h").things("m20").events(LEFT, 11, 0);
        chanceIs(by, 0, 0, 0, 1);
        chanceIs(by, 1, 0, 1, 16);
        chanceIs(by, 16, 0, 1, 1);
        by.digest();
    }

    private static void chanceInLowestTerms() {
        Case c = Case.of(29, "FRACTIONS are told in lowest terms, above and below (0 by 1).").hooks("h").things("m10");
        c.events(MAID, 0, 0);
        chanceIs(c, 2, 0, 7, 8);
        chanceIs(c, 4, 0, 3, 4);
        chanceIs(c, 8, 0, 1, 2);
        chanceIs(c, 12, 0, 1, 4);
        chanceIs(c, 13, 0, 3, 16);
        // an event that changes nothing leaves it so
        c.events(MAID, 11, 0);
        chanceIs(c, 8, 0, 1, 2);
        chanceIs(c, 13, 0, 3, 16);
        c.events(FRONT, 0, 0);
        chanceIs(c, 8, 0, 1, 4);
        chanceIs(c, 12, 0, 1, 16);
        chanceIs(c, 13, 0, 9, 256);
        chanceIs(c, 16, 0, 0, 1);
        c.digest();
    }

    private static void chanceOfEight() {
        Case c = Case.of(29, CHANCE).hooks("h").things("m10");
        for (int i = 0; i < 8; i++) {
            c.events(i % 2, 0, i);
        }
        // none of the eight may be: 15, 8, 1 and 0 sixteenths to the eighth
        chanceIs(c, 0, 0, 1, 1);
        chanceIs(c, 1, 0, 2562890625L, 4294967296L);
        chanceIs(c, 8, 0, 1, 256);
        chanceIs(c, 15, 0, 1, 4294967296L);
        chanceIs(c, 16, 0, 0, 1);
        c.digest();
        // it is enough that one of the eight is
        Case any = Case.of(29, CHANCE).hooks("h").things("m20");
        for (int i = 0; i < 8; i++) {
            any.events(LEFT, i, 0);
        }
        chanceIs(any, 0, 0, 0, 1);
        chanceIs(any, 1, 0, 4294967296L - 2562890625L, 4294967296L);
        chanceIs(any, 15, 0, 4294967295L, 4294967296L);
        chanceIs(any, 16, 0, 1, 1);
        any.digest();
    }

    // ---- 30

    private static final String SEASONS = "SEASONS by a SEED: n THINGS (0 to 8), in place of those told: of each a LOT of 3 "
            + "(its sort), a LOT of 9, and 1 (HEAT), a LOT of 10 (its MARK): how many are SETTLED; MINUTES of the HOLIDAY.";

    private static void seasonIs(Case c, int seed, int n, long settled, long minutes) {
        c.still(settled, "seasons", seed, n, 0).still(minutes, "seasons", seed, n, 1);
    }

    private static void seasonNumbers() {
        String sentence = "SEASONS: SETTLED (what = 0), MINUTES of the HOLIDAY (1). BAD.";
        Case none = Case.of(30, sentence).outside(1, 0, 8, BAD, "seasons", 1, 0, 0);
        none.outside(2, 0, 1, BAD, "seasons", 1, 0, 0).outside(1, 0, 8, BAD, "seasons", LEAST, 0, 2).digest();
        seasonIs(none, 0, 0, 0, 0);
        seasonIs(none, 0, 8, 0, 0);
        Case c = Case.of(30, sentence).hooks("hh").things("m10").outside(1, 0, 8, BAD, "seasons", MOST, 0, 0);
        c.outside(2, 0, 1, BAD, "seasons", 1, 8, 0).digest();
    }

    private static void seasonsOfNone() {
        int[] seeds = {0, 1, -1, LEAST, MOST};
        Case c = Case.of(30, SEASONS).hooks("hs").things("w99").events(MAID, 0, 0, LEFT, 11, 0);
        for (int seed : seeds) {
            seasonIs(c, seed, 0, 0, 34);
        }
        c.digest();
    }

    private static final String LOTS = "SEED becomes 1103515245 SEED and 12345, as ints that wrap; its upper 16 bits as a "
            + "number from 0 on, modulo m.";

    private static void seasonsByEachSeed() {
        Case h = Case.of(30, LOTS).hooks("h");
        // by seed 1 the upper bits are 16838, 38526, 10113: q73, by 3 an evening 7, 5, 3
        seasonIs(h, 1, 1, 1, 9);
        // by the least int 32768, which as a short is below 0, 21468, 9988: q48, 4, 2
        seasonIs(h, LEAST, 1, 1, 10);
        // by the greatest 15929, 37177, 42630: q80, 8, 6, 4, 2
        seasonIs(h, MOST, 1, 1, 8);
        h.digest();
        // by seed 0 0, 54236, 42756: m36, 3, 2; by a minute an evening never
        seasonIs(h, 0, 1, 0, 0);
        seasonIs(Case.of(30, LOTS).hooks("hh").digest(), 0, 1, 1, 20);
        // by seed -1 48697, 4409, 9862: w92, at hooks 2 to 4 9, 7, 5, 3
        seasonIs(Case.of(30, LOTS).hooks("hhhhh").digest(), -1, 1, 1, 40);
        // by the least int and 1 49606, 5758, 42881: w81, at hooks 1 to 4 8, 5, 2 and two minutes of evening 2
        seasonIs(Case.of(30, LOTS).hooks("hhhhh").digest(), LEAST + 1, 1, 1, 47);
        // by the greatest less 1 64627, 52886, 9736: w36, at hooks 6 and 7 3, 2
        seasonIs(Case.of(30, LOTS).hooks("hhhhhhhh").digest(), MOST - 1, 1, 1, 80);
    }

    private static void seasonsInPlaceOfThoseTold() {
        int[] seeds = {0, 1, -1, MOST, LEAST, 65536, -65536, LEAST + 1, MOST - 1, 7};
        String[] things = {"m36;m75;w40;w32;m37;m51;w44;m81", "q73;m15;q30;m57;m95;w61;q64;m31",
            "w92;q24;w50;q37;m49;w40;m13;m30", "q80;m16;q62;w29;q57;m32;w25;w22", "q48;w67;m52;m40;w25;q43;q36;w79",
            "w69;q50;q43;w89;w66;m58;m49;w78", "m23;m74;w47;q75;w78;w58;q43;q70", "w81;w27;m42;q45;q13;q73;m76;w29",
            "w36;m56;w82;w24;q69;q22;q75;q62", "m68;m63;m35;w91;q87;w24;m80;q46"};
        String[] hooks = {"hhhh", "hsghsghsghsg", "ssssssssssss", "hhhhhhhhhhhh"};
        for (int i = 0; i < seeds.length; i++) {
            for (String row : hooks) {
                int n = i % 2 == 0 ? 8 : 7;
                BackHooks like = Checks.told(row, things[i].substring(0, 4 * n - 1), FRONT, 1, 0, LEFT, 2, 0);
                // those told, which there are more or less of, stay as they are, with a fault too
                Case c = Case.of(30, SEASONS).hooks(row).things(i % 3 == 0 ? "q90;" : "m91").events(FRONT, 1, 0, LEFT, 2, 0);
                seasonIs(c, seeds[i], n, like.sum(0), like.sum(2));
                c.digest();
            }
        }
    }
}
