/** Promises 10 to 13, sentence by sentence: what is least, most, empty and full. Refusals: RefusalsTest. */
public final class ActsEdgesTest {
    private static final int NONE = AbsentCarpets.NONE, STATE = AbsentCarpets.STATE, OUTSIDE = AbsentCarpets.OUTSIDE;
    private static final String FIVE = "P0a00P0a00P0a00P0a00P0a00";

    public static void main(String[] args) {
        whoIsAway();
        whoWeaves();
        whoSteps();
        moth();
        mend();
        undo();
        theRow();
        Check.end();
    }

    // ---- promise 10

    private static void whoIsAway() {
        Check.sentence("10: away is bits of PEOPLE, none to all", ActsEdgesTest::everySetOfThoseAway);
        Check.sentence("10: lie is bits of those that are AWAY, none to all", ActsEdgesTest::everySetOfThoseThatLie);
        Check.sentence("10: of nobody", ActsEdgesTest::dinnerOfNobody);
        Check.sentence("10: how many KNOTS were woven, 0 to 5", ActsEdgesTest::howManyWereWoven);
    }

    /** Sets are as many as people make: the greatest is inside, the next one is not. */
    private static void everySetOfThoseAway() {
        String text = "AR30";
        for (int people = 0; people <= 5; people++) {
            AbsentCarpets x = Check.house(text);
            int all = (1 << people) - 1;
            for (int away = 0; away <= all; away++) {
                int many = Integer.bitCount(away);
                Check.due("dinner(" + away + ", 0) of " + people, x.dinner(away, 0), many);
                x.undo();
            }
            Check.due("dinner(" + (all + 1) + ", 0) of " + people, x.dinner(all + 1, 0), OUTSIDE);
            Check.due("dinner(-1, 0) of " + people, x.dinner(-1, 0), OUTSIDE);
            text += "P0a00";
        }
    }

    private static void everySetOfThoseThatLie() {
        AbsentCarpets x = Check.house("AR30P0a00P0a00P0a00");
        for (int away = 0; away < 8; away++) {
            for (int lie = 0; lie < 8; lie++) {
                boolean of = (lie & ~away) == 0;
                int due = of ? Integer.bitCount(away) : OUTSIDE;
                Check.due("dinner(" + away + ", " + lie + ")", x.dinner(away, lie), due);
                if (of) {
                    Check.due("red ones of it", x.room(0, 4), Integer.bitCount(lie));
                    x.undo();
                }
            }
        }
    }

    private static void dinnerOfNobody() {
        AbsentCarpets x = Check.house("AR01R02R03");
        for (int dinners = 1; dinners <= 5; dinners++) {
            Check.due("dinner(0, 0)", x.dinner(0, 0), 0);
            Check.due("count(3)", x.count(3), dinners);
        }
        Check.carpetIs(x, 0, "", 0);
        Check.carpetIs(x, 2, "", 0);
    }

    private static void howManyWereWoven() {
        for (int needs = 1; needs <= 6; needs++) {
            AbsentCarpets x = Check.house("AR0" + needs + FIVE);
            Check.due("dinner(31, 0) of a carpet of " + needs, x.dinner(31, 0), Math.min(5, needs));
            Check.due("dinner(31, 0) again", x.dinner(31, 0), needs == 6 ? 1 : 0);
            Check.due("dinner(31, 0) once more", x.dinner(31, 0), 0);
        }
    }

    private static void whoWeaves() {
        Check.sentence("10: each that is AWAY weaves by number", ActsEdgesTest::wovenByNumber);
        Check.sentence("10: at the end of the CARPET", ActsEdgesTest::wovenAtTheEnd);
        Check.sentence("10: of its ROOM", ActsEdgesTest::wovenInItsRoom);
        Check.sentence("10: RED, if it LIES", ActsEdgesTest::redIfItLies);
        Check.sentence("10: if that is not DONE, the last KNOT that fits", ActsEdgesTest::theLastThatFits);
        Check.sentence("10: if that is not DONE, 1 and 30 KNOTS", ActsEdgesTest::leastAndMostNeeds);
        Check.sentence("10: a DONE one that lost a KNOT is not DONE", ActsEdgesTest::doneNoMore);
    }

    private static void wovenByNumber() {
        AbsentCarpets x = Check.house("AR30" + FIVE);
        x.dinner(31, 0);
        Check.carpetIs(x, 0, "02468", 0);
        x.dinner(26, 0);
        Check.carpetIs(x, 0, "02468268", 2);
    }

    private static void wovenAtTheEnd() {
        AbsentCarpets x = Check.house("AR30P0a00P0a00");
        x.dinner(2, 0);
        x.dinner(1, 1);
        x.dinner(2, 2);
        Check.carpetIs(x, 0, "213", 3);
    }

    private static void wovenInItsRoom() {
        AbsentCarpets x = Check.house("AR30R30R30P2a00P0a00P1a00P0a00P2a00");
        Check.due("dinner(31, 10)", x.dinner(31, 10), 5);
        Check.carpetIs(x, 0, "37", 0);
        Check.carpetIs(x, 1, "4", 0);
        Check.carpetIs(x, 2, "08", 0);
    }

    private static void redIfItLies() {
        for (int lie = 0; lie < 32; lie++) {
            AbsentCarpets x = Check.house("AR30" + FIVE);
            x.dinner(31, lie);
            for (int person = 0; person < 5; person++) {
                Check.due("knot(0, " + person + ") by " + lie, x.knot(0, person), 2 * person + (lie >> person & 1));
            }
        }
    }

    private static void theLastThatFits() {
        AbsentCarpets x = Check.house("AR04" + FIVE);
        x.dinner(7, 0);
        x.mend(0);
        Check.due("dinner(31, 31) of which one fits", x.dinner(31, 31), 1);
        Check.carpetIs(x, 0, "0241", 0);
        Check.due("dinner(31, 31) of which none fits", x.dinner(31, 31), 0);
        Check.carpetIs(x, 0, "0241", 0);
        Check.due("it is a dinner all the same", x.count(3), 3);
    }

    private static void leastAndMostNeeds() {
        AbsentCarpets x = Check.house("AR01R30P0a00P1a00");
        for (int i = 1; i <= 31; i++) {
            int due = (i <= 1 ? 1 : 0) + (i <= 30 ? 1 : 0);
            Check.due("dinner(3, 0), the " + i + "th", x.dinner(3, 0), due);
        }
        Check.due("room(0, 1)", x.room(0, 1), 1);
        Check.due("room(1, 1)", x.room(1, 1), 30);
    }

    private static void doneNoMore() {
        AbsentCarpets x = Check.house("AR02P0a00");
        Check.dinners(x, 2, 1, 0);
        x.moth(0);
        Check.due("dinner(1, 1) behind a moth", x.dinner(1, 1), 1);
        Check.carpetIs(x, 0, "01", 0);
        Check.dinners(x, 4, 0, 0);
        Check.due("dinner(1, 0) behind the fourth step", x.dinner(1, 0), 1);
        Check.carpetIs(x, 0, "10", 0);
    }

    private static void whoSteps() {
        Check.sentence("10: each that came steps on the CARPET of its ROOM", ActsEdgesTest::stepsOfThoseThatCame);
        Check.sentence("10: behind each fourth STEP, not behind the third", ActsEdgesTest::notBehindTheThird);
        Check.sentence("10: there are 0 then", ActsEdgesTest::noStepsThen);
        Check.sentence("10: the first KNOT is worn away", ActsEdgesTest::theFirstIsWorn);
        Check.sentence("10: if there is one", ActsEdgesTest::noKnotToWear);
        Check.sentence("10: first they weave, then they step", ActsEdgesTest::wovenThenWorn);
        Check.sentence("10: each fourth STEP, of four and of five that come", ActsEdgesTest::fourthStepInOneDinner);
        Check.sentence("10: steps on a DONE one wear it", ActsEdgesTest::doneOnesAreWorn);
    }

    private static void stepsOfThoseThatCame() {
        AbsentCarpets x = Check.house("AR30R30R30P0a00P2a00P2a00P0a00P2a00");
        x.dinner(31, 0);
        Check.due("room(0, 2) if all are away", x.room(0, 2), 0);
        x.dinner(0, 0);
        Check.due("room(0, 2) if all came", x.room(0, 2), 2);
        Check.due("room(1, 2) of nobody's", x.room(1, 2), 0);
        Check.due("room(2, 2) if all came", x.room(2, 2), 3);
    }

    private static void notBehindTheThird() {
        AbsentCarpets x = Check.house("AR30P0a00");
        Check.dinners(x, 3, 1, 0);
        for (int came = 1; came <= 12; came++) {
            x.dinner(0, 0);
            Check.due("knots behind " + came, x.room(0, 1), 3 - came / 4);
        }
    }

    private static void noStepsThen() {
        AbsentCarpets x = Check.house("AR30P0a00P0a00P0a00");
        x.dinner(0, 0);
        Check.due("steps behind the third", x.room(0, 2), 3);
        x.dinner(6, 0);
        Check.due("steps behind the fourth", x.room(0, 2), 0);
        Check.dinners(x, 2, 4, 0);
        Check.due("steps behind the fourth once more", x.room(0, 2), 0);
    }

    private static void theFirstIsWorn() {
        AbsentCarpets x = Check.house("AR30P0a00P0a00");
        x.dinner(3, 0);
        x.dinner(3, 3);
        Check.dinners(x, 2, 0, 0);
        Check.carpetIs(x, 0, "213", 0);
        Check.dinners(x, 2, 0, 0);
        Check.carpetIs(x, 0, "13", 0);
        Check.dinners(x, 4, 0, 0);
        Check.carpetIs(x, 0, "", 0);
    }

    private static void noKnotToWear() {
        AbsentCarpets x = Check.house("AR30P0a00");
        Check.dinners(x, 4, 0, 0);
        Check.carpetIs(x, 0, "", 0);
        x.dinner(1, 0);
        Check.carpetIs(x, 0, "0", 0);
        Check.dinners(x, 8, 0, 0);
        Check.carpetIs(x, 0, "", 0);
        Check.due("count(5)", x.count(5), 0);
    }

    /** The fourth step of a dinner wears the knot that was woven at it, whoever has the greater number. */
    private static void wovenThenWorn() {
        for (int away = 0; away < 5; away++) {
            AbsentCarpets x = Check.house("AR30" + FIVE);
            Check.due("dinner(" + (1 << away) + ", 0)", x.dinner(1 << away, 0), 1);
            Check.carpetIs(x, 0, "", 0);
        }
        AbsentCarpets full = Check.house("AR02P0a00P0a00");
        full.dinner(3, 0);
        Check.dinners(full, 3, 1, 0);
        Check.due("who is away finds it done, and then it is worn", full.dinner(1, 1), 0);
        Check.carpetIs(full, 0, "2", 0);
    }

    private static void fourthStepInOneDinner() {
        AbsentCarpets x = Check.house("AR30" + FIVE);
        x.dinner(31, 0);
        x.dinner(0, 0);
        Check.carpetIs(x, 0, "2468", 1);
        x.dinner(0, 0);
        Check.carpetIs(x, 0, "468", 2);
        x.dinner(0, 0);
        Check.carpetIs(x, 0, "68", 3);
        x.dinner(0, 0);
        Check.carpetIs(x, 0, "", 0);
        AbsentCarpets four = Check.house("AR30P0a00P0a00P0a00P0a00");
        four.dinner(15, 0);
        four.dinner(0, 0);
        Check.carpetIs(four, 0, "246", 0);
    }

    private static void doneOnesAreWorn() {
        AbsentCarpets x = Check.house("AR01R30P0a00P1a00");
        Check.dinners(x, 30, 3, 0);
        Check.due("count(4)", x.count(4), 3);
        Check.dinners(x, 3, 0, 0);
        Check.due("count(4) behind three", x.count(4), 3);
        x.dinner(0, 0);
        Check.due("count(4) behind four", x.count(4), 0);
        Check.due("count(5)", x.count(5), 29);
    }

    // ---- promise 11

    private static void moth() {
        Check.sentence("11: the last KNOT, what it eats as knot() tells", ActsEdgesTest::theLastIsEaten);
        Check.sentence("11: the only KNOT, and then STATE", ActsEdgesTest::theOnlyOneIsEaten);
        Check.sentence("11: of a full CARPET", ActsEdgesTest::ofAFullCarpet);
        Check.sentence("11: STEPS and DINNERS stay", ActsEdgesTest::mothLeavesSteps);
    }

    private static void theLastIsEaten() {
        AbsentCarpets x = Check.house("AR30" + FIVE);
        x.dinner(31, 10);
        for (int knot : new int[] {8, 7, 4, 3, 0}) {
            Check.due("moth(0)", x.moth(0), knot);
        }
        Check.due("moth(0) of none", x.moth(0), STATE);
    }

    private static void theOnlyOneIsEaten() {
        AbsentCarpets x = Check.house("AR30R30R30P0a00P2a00");
        x.dinner(3, 2);
        Check.due("moth(2)", x.moth(2), 3);
        Check.due("moth(2) of none", x.moth(2), STATE);
        Check.due("moth(1) of nobody's", x.moth(1), STATE);
        Check.due("moth(0)", x.moth(0), 0);
        Check.due("moth(0) of none", x.moth(0), STATE);
        Check.due("knot(0, 0)", x.knot(0, 0), NONE);
    }

    private static void ofAFullCarpet() {
        AbsentCarpets x = Check.house("AR30P0a00");
        Check.dinners(x, 29, 1, 0);
        x.dinner(1, 1);
        Check.due("moth(0)", x.moth(0), 1);
        Check.due("room(0, 1)", x.room(0, 1), 29);
        Check.due("room(0, 3)", x.room(0, 3), 0);
    }

    private static void mothLeavesSteps() {
        AbsentCarpets x = Check.house("AR30P0a00P0a00");
        x.dinner(1, 0);
        x.moth(0);
        Check.carpetIs(x, 0, "", 1);
        Check.due("count(3)", x.count(3), 1);
        Check.due("count(6)", x.count(6), 2);
    }

    // ---- promise 12

    private static void mend() {
        Check.sentence("12: how many STEPS there were, 1 to 3", ActsEdgesTest::howManySteps);
        Check.sentence("12: STATE: there are none, behind the fourth STEP too", ActsEdgesTest::noneBehindTheFourth);
        Check.sentence("12: it has no STEPS, so the next is the first", ActsEdgesTest::theNextIsTheFirst);
        Check.sentence("12: KNOTS and DINNERS stay, and other CARPETS", ActsEdgesTest::mendLeavesKnots);
    }

    private static void howManySteps() {
        for (int steps = 1; steps <= 3; steps++) {
            AbsentCarpets x = Check.house("AR30P0a00");
            Check.dinners(x, steps, 0, 0);
            Check.due("mend(0)", x.mend(0), steps);
            Check.due("mend(0) once more", x.mend(0), STATE);
        }
    }

    private static void noneBehindTheFourth() {
        AbsentCarpets x = Check.house("AR30P0a00");
        Check.due("mend(0) at first", x.mend(0), STATE);
        Check.dinners(x, 4, 0, 0);
        Check.due("mend(0) behind 4", x.mend(0), STATE);
        x.dinner(0, 0);
        Check.due("mend(0) behind 5", x.mend(0), 1);
    }

    private static void theNextIsTheFirst() {
        AbsentCarpets x = Check.house("AR30P0a00");
        x.dinner(1, 0);
        Check.dinners(x, 3, 0, 0);
        x.mend(0);
        Check.dinners(x, 3, 0, 0);
        Check.carpetIs(x, 0, "0", 3);
        x.dinner(0, 0);
        Check.carpetIs(x, 0, "", 0);
    }

    private static void mendLeavesKnots() {
        AbsentCarpets x = Check.house("AR30R30R30P0a00P1a00P2a00");
        x.dinner(7, 0);
        x.dinner(0, 0);
        Check.due("mend(2)", x.mend(2), 1);
        Check.carpetIs(x, 0, "0", 1);
        Check.carpetIs(x, 1, "2", 1);
        Check.carpetIs(x, 2, "4", 0);
        Check.due("count(3)", x.count(3), 2);
        Check.due("count(6)", x.count(6), 3);
    }

    // ---- promise 13

    private static void undo() {
        Check.sentence("13: STATE: there is none", ActsEdgesTest::noActToUndo);
        Check.sentence("13: how many are left, the only ACT", ActsEdgesTest::theOnlyAct);
        Check.sentence("13: a DINNER is undone", ActsEdgesTest::dinnerUndone);
        Check.sentence("13: a DINNER that wove and wore nothing is undone", ActsEdgesTest::emptyDinnerUndone);
        Check.sentence("13: a MOTH is undone", ActsEdgesTest::mothUndone);
        Check.sentence("13: MENDING is undone", ActsEdgesTest::mendingUndone);
        Check.sentence("13: what is no ACT is not undone", ActsEdgesTest::noActs);
    }

    private static void noActToUndo() {
        AbsentCarpets x = Check.house("AR30P0a00");
        Check.due("undo() at first", x.undo(), STATE);
        x.dinner(1, 0);
        x.undo();
        Check.due("undo() of no more", x.undo(), STATE);
        Check.due("undo() of no more still", x.undo(), STATE);
        Check.due("count(6)", x.count(6), 0);
    }

    private static void theOnlyAct() {
        AbsentCarpets x = Check.house("AR30P0a00");
        x.dinner(1, 0);
        Check.due("count(6)", x.count(6), 1);
        Check.due("undo()", x.undo(), 0);
        Check.due("count(6)", x.count(6), 0);
        Check.due("count(5)", x.count(5), 0);
        Check.due("count(3)", x.count(3), 0);
    }

    private static void dinnerUndone() {
        AbsentCarpets x = Check.house("AR04R30P0a00P0a00P1a00");
        x.dinner(7, 4);
        x.dinner(4, 0);
        x.dinner(1, 1);
        Check.carpetIs(x, 0, "021", 3);
        Check.carpetIs(x, 1, "54", 1);
        x.dinner(2, 2);
        Check.carpetIs(x, 0, "213", 0);
        Check.due("undo() of what wove and wore", x.undo(), 3);
        Check.carpetIs(x, 0, "021", 3);
        Check.carpetIs(x, 1, "54", 1);
        Check.due("count(3)", x.count(3), 3);
    }

    private static void emptyDinnerUndone() {
        AbsentCarpets x = Check.house("AR01R01");
        x.dinner(0, 0);
        x.dinner(0, 0);
        Check.due("undo()", x.undo(), 1);
        Check.due("count(3)", x.count(3), 1);
    }

    private static void mothUndone() {
        AbsentCarpets x = Check.house("AR01P0a00");
        x.dinner(1, 1);
        x.moth(0);
        Check.due("undo()", x.undo(), 1);
        Check.carpetIs(x, 0, "1", 0);
        Check.due("room(0, 3)", x.room(0, 3), 1);
        Check.due("count(3)", x.count(3), 1);
    }

    private static void mendingUndone() {
        AbsentCarpets x = Check.house("AR01P0a00");
        Check.dinners(x, 3, 0, 0);
        x.mend(0);
        Check.due("undo()", x.undo(), 3);
        Check.due("room(0, 2)", x.room(0, 2), 3);
        Check.due("count(3)", x.count(3), 3);
    }

    private static void noActs() {
        AbsentCarpets x = Check.house("AR30P0a05");
        x.dinner(1, 0);
        x.see(0, 1);
        x.seed(3);
        x.season(0, 1);
        long seed = x.seed(9);
        x.keep(1);
        x.write(1, 'Q');
        x.unsee();
        x.see(1, 2);
        Check.due("count(6)", x.count(6), 1);
        Check.due("undo()", x.undo(), 0);
        Check.holds("the season drew", seed != 3);
        Check.due("the seed stays", x.seed(0), 9);
        Check.due("what was told stays", x.see(1, 0), 2);
        Check.due("the text stays", x.count(0), 10);
        Check.due("what was kept stays", x.again(1), 1);
    }

    private static void theRow() {
        Check.sentence("13: ACTS are a row (16 at most)", ActsEdgesTest::sixteenActs);
        Check.sentence("13: of more the first one is forgotten", ActsEdgesTest::seventeenActs);
        Check.sentence("13: each kind of ACT counts, mixed", ActsEdgesTest::everyKindCounts);
        Check.sentence("13: behind what was undone there is place again", ActsEdgesTest::placeAgain);
    }

    private static void sixteenActs() {
        AbsentCarpets x = Check.house("AR30P0a00");
        for (int acts = 1; acts <= 16; acts++) {
            x.dinner(1, 0);
            Check.due("count(6)", x.count(6), acts);
        }
        for (int left = 15; left >= 0; left--) {
            Check.due("undo()", x.undo(), left);
            Check.due("room(0, 1)", x.room(0, 1), left);
        }
        Check.due("undo() of no more", x.undo(), STATE);
        Check.due("count(3)", x.count(3), 0);
    }

    private static void seventeenActs() {
        AbsentCarpets x = Check.house("AR30P0a00");
        Check.dinners(x, 17, 1, 0);
        Check.due("count(6)", x.count(6), 16);
        for (int left = 15; left >= 0; left--) {
            Check.due("undo()", x.undo(), left);
            Check.due("room(0, 1)", x.room(0, 1), left + 1);
        }
        Check.due("undo() of the forgotten one", x.undo(), STATE);
        Check.due("count(3): it stands", x.count(3), 1);
        Check.due("count(5): it stands", x.count(5), 1);
    }

    /** Six rounds of a dinner that weaves, one that steps, and what takes both away: 24 acts. */
    private static void everyKindCounts() {
        AbsentCarpets x = Check.house("AR30P0a00");
        int acts = 0;
        for (int round = 0; round < 6; round++) {
            x.dinner(1, 1);
            Check.due("count(6) behind a dinner", x.count(6), Math.min(16, ++acts));
            x.dinner(0, 0);
            Check.due("count(6) behind a dinner", x.count(6), Math.min(16, ++acts));
            x.moth(0);
            Check.due("count(6) behind a moth", x.count(6), Math.min(16, ++acts));
            x.mend(0);
            Check.due("count(6) behind mending", x.count(6), Math.min(16, ++acts));
        }
        for (int left = 15; left >= 0; left--) {
            Check.due("undo()", x.undo(), left);
            Check.due("knots", x.room(0, 1), left % 4 == 1 || left % 4 == 2 ? 1 : 0);
            Check.due("steps", x.room(0, 2), left % 4 == 2 || left % 4 == 3 ? 1 : 0);
        }
        Check.due("undo() of no more", x.undo(), STATE);
        Check.due("count(3)", x.count(3), 4);
    }

    private static void placeAgain() {
        AbsentCarpets x = Check.house("AR30P0a00");
        Check.dinners(x, 20, 1, 0);
        for (int i = 0; i < 3; i++) {
            x.undo();
        }
        Check.dinners(x, 2, 1, 1);
        Check.due("count(6) of 15", x.count(6), 15);
        Check.dinners(x, 2, 1, 1);
        Check.due("count(6) of 17", x.count(6), 16);
        for (int left = 15; left >= 0; left--) {
            Check.due("undo()", x.undo(), left);
            Check.due("room(0, 1)", x.room(0, 1), left + 5);
        }
        Check.due("undo() of no more", x.undo(), STATE);
    }
}
