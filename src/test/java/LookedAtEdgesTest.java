/** Promises 14 to 18, sentence by sentence: what is least, most, empty and full. Refusals: RefusalsTest. */
public final class LookedAtEdgesTest {
    private static final int NONE = AbsentCarpets.NONE, OUTSIDE = AbsentCarpets.OUTSIDE;
    private static final String FIVE = "P0a00P0a00P0a00P0a00P0a00";

    public static void main(String[] args) {
        price();
        fringe();
        trouble();
        invite();
        inviteAt();
        Check.end();
    }

    // ---- promise 14

    private static void price() {
        Check.sentence("14: of no KNOT", LookedAtEdgesTest::priceOfNothing);
        Check.sentence("14: each KNOT 1 and the GRUDGE (0 to 9) of whose it is", LookedAtEdgesTest::priceOfOne);
        Check.sentence("14: a RED one twice that", LookedAtEdgesTest::priceOfARedOne);
        Check.sentence("14: together, 30 KNOTS", LookedAtEdgesTest::priceOfAFullOne);
        Check.sentence("14: less its STEPS", LookedAtEdgesTest::priceLessSteps);
        Check.sentence("14: 0 at least", LookedAtEdgesTest::priceIsZeroAtLeast);
    }

    private static void priceOfNothing() {
        AbsentCarpets x = Check.house("AR30R01R30P0a99P1b99");
        for (int room = 0; room < 3; room++) {
            Check.due("price(" + room + ")", x.price(room), 0);
        }
    }

    private static void priceOfOne() {
        for (int grudge = 0; grudge <= 9; grudge++) {
            AbsentCarpets x = Check.house("AR30R30P0a00P1a" + grudge + "0");
            x.dinner(3, 0);
            Check.due("price(1) of grudge " + grudge, x.price(1), 1 + grudge);
            Check.due("price(0) of another one's", x.price(0), 1);
        }
    }

    private static void priceOfARedOne() {
        for (int grudge = 0; grudge <= 9; grudge++) {
            AbsentCarpets x = Check.house("AR30P0a50P0a" + grudge + "0");
            x.dinner(3, 2);
            Check.due("price(0), the second red of grudge " + grudge, x.price(0), 6 + 2 * (1 + grudge));
        }
    }

    private static void priceOfAFullOne() {
        AbsentCarpets x = Check.house("AR30P0a90");
        for (int knots = 1; knots <= 30; knots++) {
            x.dinner(1, 1);
            Check.due("price(0) of " + knots, x.price(0), 20 * knots);
        }
        x.dinner(1, 1);
        Check.due("price(0) of no more", x.price(0), 600);
        x.moth(0);
        Check.due("price(0) behind a moth", x.price(0), 580);
    }

    private static void priceLessSteps() {
        AbsentCarpets x = Check.house("AR30P0a40");
        Check.dinners(x, 2, 1, 0);
        int[] due = {10, 9, 8, 7, 5, 4, 3, 2, 0};
        for (int came = 0; came < due.length; came++) {
            Check.due("price(0) behind " + came, x.price(0), due[came]);
            x.dinner(0, 0);
        }
    }

    /** As many steps as it is worth, one less and one more. */
    private static void priceIsZeroAtLeast() {
        for (int knots = 0; knots <= 4; knots++) {
            for (int steps = 0; steps <= 3; steps++) {
                AbsentCarpets x = Check.house("AR30P0a00");
                Check.dinners(x, knots, 1, 0);
                Check.dinners(x, steps, 0, 0);
                Check.due("price(0) of " + knots + " and " + steps, x.price(0), Math.max(0, knots - steps));
            }
        }
    }

    // ---- promise 15

    private static void fringe() {
        Check.sentence("15: of no KNOT", LookedAtEdgesTest::fringeOfNothing);
        Check.sentence("15: from their ends", LookedAtEdgesTest::fringeFromTheEnds);
        Check.sentence("15: of as many as the shorter one has", LookedAtEdgesTest::fringeOfAllKnots);
        Check.sentence("15: of 30 KNOTS", LookedAtEdgesTest::fringeOfFullOnes);
        Check.sentence("15: each two, up to the first that are not alike", LookedAtEdgesTest::fringeEnds);
        Check.sentence("15: each two of one COLOUR", LookedAtEdgesTest::fringeOfColours);
        Check.sentence("15: both RED or both not", LookedAtEdgesTest::fringeOfRedOnes);
        Check.sentence("15: of the first and the last ROOM, in whichever order", LookedAtEdgesTest::fringeOfTheLastRoom);
    }

    private static void fringeOfNothing() {
        AbsentCarpets x = Check.house("AR30R30P0a00P1a00");
        Check.fringeIs(x, 0, 1, 0);
        x.dinner(1, 0);
        Check.fringeIs(x, 0, 1, 0);
        x.dinner(3, 0);
        Check.fringeIs(x, 0, 1, 1);
        x.moth(0);
        x.moth(0);
        Check.fringeIs(x, 0, 1, 0);
    }

    private static void fringeFromTheEnds() {
        AbsentCarpets x = Check.house("AR30R30P0a00P1a00P0b00P1c00");
        x.dinner(3, 0);
        x.dinner(12, 0);
        Check.fringeIs(x, 0, 1, 0);
        x.dinner(3, 0);
        Check.fringeIs(x, 0, 1, 1);
    }

    private static void fringeOfAllKnots() {
        AbsentCarpets x = Check.house("AR30R30P0a00P1a00P0b00");
        x.dinner(3, 0);
        Check.fringeIs(x, 0, 1, 1);
        x.dinner(3, 3);
        Check.fringeIs(x, 0, 1, 2);
        AbsentCarpets longer = Check.house("AR30R30P0a00P1a00P0b00");
        longer.dinner(4, 0);
        longer.dinner(3, 0);
        longer.dinner(3, 3);
        Check.fringeIs(longer, 0, 1, 2);
    }

    private static void fringeOfFullOnes() {
        AbsentCarpets x = Check.house("AR30R30P0d00P1d00");
        for (int knots = 1; knots <= 30; knots++) {
            x.dinner(3, knots % 2 * 3);
            Check.fringeIs(x, 0, 1, knots);
        }
        x.moth(0);
        Check.fringeIs(x, 0, 1, 0);
        x.moth(1);
        Check.fringeIs(x, 0, 1, 29);
    }

    private static void fringeEnds() {
        AbsentCarpets x = Check.house("AR30R30P0a00P1a00P0b00P1c00");
        x.dinner(3, 0);
        x.dinner(3, 1);
        x.dinner(3, 3);
        x.mend(0);
        x.mend(1);
        Check.fringeIs(x, 0, 1, 1);
        x.dinner(3, 0);
        Check.fringeIs(x, 0, 1, 2);
    }

    private static void fringeOfColours() {
        for (char one = 'a'; one <= 'd'; one++) {
            for (char other = 'a'; other <= 'd'; other++) {
                AbsentCarpets x = Check.house("AR30R30P0" + one + "19P1" + other + "82");
                x.dinner(3, 0);
                Check.fringeIs(x, 0, 1, one == other ? 1 : 0);
            }
        }
    }

    private static void fringeOfRedOnes() {
        for (int lie = 0; lie < 4; lie++) {
            AbsentCarpets x = Check.house("AR30R30P0a00P1a00");
            x.dinner(3, lie);
            Check.fringeIs(x, 0, 1, lie == 0 || lie == 3 ? 1 : 0);
        }
        AbsentCarpets colours = Check.house("AR30R30P0a00P1b00");
        colours.dinner(3, 3);
        Check.fringeIs(colours, 0, 1, 0);
        colours.dinner(3, 1);
        Check.fringeIs(colours, 0, 1, 0);
        colours.dinner(3, 2);
        Check.fringeIs(colours, 0, 1, 0);
    }

    private static void fringeOfTheLastRoom() {
        AbsentCarpets x = Check.house("AR30R30R30P0a00P1b00P2a00");
        x.dinner(7, 0);
        Check.fringeIs(x, 0, 2, 1);
        Check.fringeIs(x, 0, 1, 0);
        Check.fringeIs(x, 1, 2, 0);
    }

    // ---- promise 16

    private static void trouble() {
        Check.sentence("16: those are bits of PEOPLE, none to all", LookedAtEdgesTest::troubleOfEverySet);
        Check.sentence("16: QUARRELS of all two that come", LookedAtEdgesTest::troubleOfQuarrels);
        Check.sentence("16: GRUDGES of all that do not", LookedAtEdgesTest::troubleOfGrudges);
        Check.sentence("16: together, the most there can be", LookedAtEdgesTest::mostTrouble);
    }

    private static void troubleOfEverySet() {
        String text = "AR01";
        for (int people = 0; people <= 5; people++) {
            AbsentCarpets x = Check.house(text);
            int all = (1 << people) - 1;
            for (int those = 0; those <= all; those++) {
                Check.due("trouble(" + those + ") of " + people, x.trouble(those), people - Integer.bitCount(those));
            }
            Check.due("trouble(" + (all + 1) + ") of " + people, x.trouble(all + 1), OUTSIDE);
            Check.due("trouble(-1) of " + people, x.trouble(-1), OUTSIDE);
            text += "P0a10";
        }
    }

    private static void troubleOfQuarrels() {
        AbsentCarpets x = Check.house("AR01" + FIVE + "Q049Q431Q212");
        for (int those = 0; those < 32; those++) {
            int due = ((those & 17) == 17 ? 9 : 0) + ((those & 24) == 24 ? 1 : 0) + ((those & 6) == 6 ? 2 : 0);
            Check.due("trouble(" + those + ")", x.trouble(those), due);
        }
    }

    private static void troubleOfGrudges() {
        AbsentCarpets x = Check.house("AR01P0a10P0a20P0a40P0a80P0a90");
        int[] grudges = {1, 2, 4, 8, 9};
        for (int those = 0; those < 32; those++) {
            int due = 0;
            for (int person = 0; person < 5; person++) {
                due += (those >> person & 1) == 0 ? grudges[person] : 0;
            }
            Check.due("trouble(" + those + ")", x.trouble(those), due);
        }
    }

    private static void mostTrouble() {
        AbsentCarpets x = Check.house("AR01P0a90P0a90P0a90P0a90P0a90Q019Q029Q039Q049Q129Q139Q149Q239");
        Check.due("trouble(0)", x.trouble(0), 45);
        Check.due("trouble(31)", x.trouble(31), 72);
        Check.due("trouble(30)", x.trouble(30), 9 + 36);
    }

    // ---- promises 17 and 18

    private static void invite() {
        Check.sentence("17: in n DINNERS (1 to 6)", LookedAtEdgesTest::leastAndMostDinners);
        Check.sentence("17: NONE: it can not be, of nobody's ROOM", LookedAtEdgesTest::nobodysRoom);
        Check.sentence("17: NONE: it can not be, of one KNOT too many", LookedAtEdgesTest::oneKnotTooMany);
        Check.sentence("17: TROUBLE 0 is not NONE", LookedAtEdgesTest::noTrouble);
        Check.sentence("17: DONE behind the last one, not ahead of it alone", LookedAtEdgesTest::doneBehindTheLast);
        Check.sentence("17: from now on, with its KNOTS and its STEPS", LookedAtEdgesTest::fromNowOn);
        Check.sentence("17: by least TROUBLE in all, not in the first", LookedAtEdgesTest::leastInAll);
        Check.sentence("17: QUARRELS and GRUDGES of other ROOMS count too", LookedAtEdgesTest::othersCount);
        Check.sentence("17: the most TROUBLE there can be", LookedAtEdgesTest::mostTroubleOfAll);
        Check.sentence("17: to look changes nothing", LookedAtEdgesTest::planChangesNothing);
    }

    private static void leastAndMostDinners() {
        AbsentCarpets x = Check.house("AR01P0a50");
        Check.planIs(x, 0, 1, 5, 0);
        Check.planIs(x, 0, 6, 5, 1, 1, 1, 1, 0, 1);
        Check.due("invite(0, 0)", x.invite(0, 0), OUTSIDE);
        Check.due("invite(0, 7)", x.invite(0, 7), OUTSIDE);
        Check.due("inviteAt(0, 0, 0)", x.inviteAt(0, 0, 0), OUTSIDE);
        Check.due("inviteAt(0, 7, 0)", x.inviteAt(0, 7, 0), OUTSIDE);
    }

    private static void nobodysRoom() {
        AbsentCarpets x = Check.house("AR01R01P0a00");
        AbsentCarpets nobody = Check.house("AR01");
        for (int n = 1; n <= 6; n++) {
            Check.planIs(x, 1, n, NONE);
            Check.planIs(nobody, 0, n, NONE);
        }
    }

    private static void oneKnotTooMany() {
        String text = "";
        for (int members = 1; members <= 5; members++) {
            text += "P0a00";
            for (int n = 1; n <= 6; n++) {
                int knots = members * n;
                Check.planIs(Check.house("AR" + knots / 10 + knots % 10 + text), 0, n, 0, new int[n]);
                if (knots < 30) {
                    Check.planIs(Check.house("AR" + (knots + 1) / 10 + (knots + 1) % 10 + text), 0, n, NONE);
                }
            }
        }
    }

    private static void noTrouble() {
        AbsentCarpets x = Check.house("AR01P0a00");
        Check.planIs(x, 0, 1, 0, 0);
        x.dinner(1, 0);
        Check.planIs(x, 0, 1, 0, 0);
        AbsentCarpets y = Check.house("AR01P0a90");
        y.dinner(1, 0);
        Check.planIs(y, 0, 1, 0, 1);
    }

    /** A carpet that is done has three steps: whoever comes at all wears it. */
    private static void doneBehindTheLast() {
        AbsentCarpets x = Check.house("AR01P0a70");
        x.dinner(1, 0);
        Check.dinners(x, 2, 0, 0);
        Check.planIs(x, 0, 1, 0, 1);
        x.dinner(0, 0);
        Check.due("room(0, 3)", x.room(0, 3), 1);
        Check.planIs(x, 0, 1, 7, 0);
        Check.planIs(x, 0, 2, 7, 1, 0);
        x.mend(0);
        Check.planIs(x, 0, 1, 0, 1);
        Check.planIs(x, 0, 3, 0, 1, 1, 1);
        Check.planIs(x, 0, 4, 7, 0, 1, 1, 1);
    }

    private static void fromNowOn() {
        AbsentCarpets x = Check.house("AR03P0a20P0a10");
        Check.planIs(x, 0, 1, NONE);
        x.dinner(2, 2);
        Check.planIs(x, 0, 1, 3, 0);
        x.dinner(2, 0);
        Check.planIs(x, 0, 1, 1, 1);
        x.dinner(2, 0);
        Check.carpetIs(x, 0, "322", 3);
        Check.planIs(x, 0, 1, 3, 0);
        x.mend(0);
        Check.planIs(x, 0, 1, 0, 3);
        x.moth(0);
        Check.planIs(x, 0, 1, 1, 1);
        x.undo();
        x.undo();
        Check.planIs(x, 0, 1, 3, 0);
    }

    /** One away at each of two dinners is less than two at one of them, or the other way round. */
    private static void leastInAll() {
        AbsentCarpets x = Check.house("AR02P0a10P0a30");
        Check.planIs(x, 0, 1, 4, 0);
        Check.planIs(x, 0, 2, 2, 2, 2);
        AbsentCarpets y = Check.house("AR02P0a10P0a30Q019");
        Check.planIs(y, 0, 2, 2, 2, 2);
        Check.planIs(y, 0, 3, 3, 2, 2, 2);
        AbsentCarpets z = Check.house("AR02P0a10P0a10Q011");
        Check.planIs(z, 0, 2, 2, 1, 1);
        Check.planIs(z, 0, 3, 3, 1, 1, 1);
    }

    private static void othersCount() {
        AbsentCarpets x = Check.house("AR01R09P0a10P1a20P1a50Q129Q014");
        Check.planIs(x, 0, 1, 3, 4);
        AbsentCarpets y = Check.house("AR01R09P0a10P1a20P1a10Q121");
        Check.planIs(y, 0, 1, 2, 2);
        AbsentCarpets z = Check.house("AR01R09P1a10P0a00P1a10Q021");
        Check.planIs(z, 0, 1, 1, 1);
    }

    private static void mostTroubleOfAll() {
        AbsentCarpets x = Check.house("AR30P0a90P0a90P0a90P0a90P0a90");
        Check.planIs(x, 0, 6, 6 * 45, 0, 0, 0, 0, 0, 0);
        Check.planIs(x, 0, 5, NONE);
    }

    private static void planChangesNothing() {
        AbsentCarpets x = RefusalsTest.livedIn();
        for (int n = 1; n <= 6; n++) {
            x.invite(0, n);
            x.inviteAt(1, n, n - 1);
        }
        Check.holds("all is as it was", Check.portrait(x).equals(Check.portrait(RefusalsTest.livedIn())));
    }

    private static void inviteAt() {
        Check.sentence("18: the i-th DINNER (from 0)", LookedAtEdgesTest::firstAndLastDinner);
        Check.sentence("18: NONE: there is none such, ahead of the first and behind the last", LookedAtEdgesTest::noSuchDinner);
        Check.sentence("18: NONE: there is none such, as it can not be", LookedAtEdgesTest::noSuchPlan);
        Check.sentence("18: of like ones the first by sets (bits)", LookedAtEdgesTest::theFirstSet);
        Check.sentence("18: of like ones the first DINNER's first", LookedAtEdgesTest::theFirstDinnersFirst);
        Check.sentence("18: who comes, as bits, nobody to all", LookedAtEdgesTest::nobodyToAll);
    }

    private static void firstAndLastDinner() {
        for (int n = 1; n <= 6; n++) {
            AbsentCarpets x = Check.house("AR0" + n + "P0a10");
            Check.planIs(x, 0, n, n, new int[n]);
            Check.due("inviteAt(0, " + n + ", " + n + ")", x.inviteAt(0, n, n), NONE);
            Check.due("inviteAt(0, " + n + ", -1)", x.inviteAt(0, n, -1), NONE);
        }
    }

    private static void noSuchDinner() {
        AbsentCarpets x = Check.house("AR01P0a00");
        for (int n = 1; n <= 6; n++) {
            for (int i : Check.beyond(0, n - 1)) {
                Check.due("inviteAt(0, " + n + ", " + i + ")", x.inviteAt(0, n, i), NONE);
            }
            Check.due("inviteAt(0, " + n + ", " + (n - 1) + ")", x.inviteAt(0, n, n - 1), 0);
        }
    }

    private static void noSuchPlan() {
        AbsentCarpets x = Check.house("AR30P0a00");
        for (int n = 1; n <= 6; n++) {
            for (int i : new int[] {Integer.MIN_VALUE, -1, 0, n - 1, n, Integer.MAX_VALUE}) {
                Check.due("inviteAt(0, " + n + ", " + i + ")", x.inviteAt(0, n, i), NONE);
            }
        }
    }

    private static void theFirstSet() {
        Check.planIs(Check.house("AR01P0a10P0a10"), 0, 1, 1, 1);
        Check.planIs(Check.house("AR01P0a10P0a10P0a10"), 0, 1, 1, 3);
        Check.planIs(Check.house("AR02P0a10P0a10P0a10"), 0, 1, 2, 1);
        Check.planIs(Check.house("AR01R09P1a00P0a00"), 0, 1, 0, 0);
        Check.planIs(Check.house("AR01R09P0a00P1a10"), 0, 1, 0, 2);
        Check.planIs(Check.house("AR01R09P1a30P0a00P1a30Q023"), 0, 1, 3, 1);
        Check.planIs(Check.house("AR01R09P1a30P0a00P1a20Q022"), 0, 1, 2, 1);
        Check.planIs(Check.house("AR01R09P1a20P0a00P1a30Q022"), 0, 1, 2, 4);
    }

    private static void theFirstDinnersFirst() {
        AbsentCarpets x = Check.house("AR01P0a10");
        Check.planIs(x, 0, 2, 1, 0, 1);
        Check.planIs(x, 0, 4, 1, 0, 1, 1, 1);
        // behind four that came the steps are 0 again, and no knot was there to wear
        Check.planIs(x, 0, 5, 1, 1, 1, 1, 1, 0);
        AbsentCarpets two = Check.house("AR01P0a10P0a10");
        Check.planIs(two, 0, 2, 1, 1, 3);
        AbsentCarpets many = Check.house("AR02P0a10");
        Check.planIs(many, 0, 3, 2, 0, 0, 1);
    }

    private static void nobodyToAll() {
        AbsentCarpets all = Check.house("AR05" + FIVE.replace("00", "10"));
        Check.planIs(all, 0, 1, 5, 0);
        all.dinner(31, 0);
        Check.planIs(all, 0, 1, 2, 7);
        all.moth(0);
        Check.planIs(all, 0, 1, 2, 7);
        AbsentCarpets few = Check.house("AR01R01P0a10P1a10P1a10P1a10P1a10");
        few.dinner(31, 0);
        Check.planIs(few, 0, 1, 0, 31);
        // three steps and no knot: if all of the room come first, two that stay away then are enough
        AbsentCarpets room = Check.house("AR01P0a10P0a10P0a10P0a10P0a10Q011");
        room.dinner(24, 0);
        room.moth(0);
        Check.carpetIs(room, 0, "", 3);
        Check.planIs(room, 0, 2, 1 + 2, 31, 13);
    }
}
