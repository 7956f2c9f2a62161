/** Promises 14 to 18: the price, the fringe, trouble, and whom to invite. */
public final class LookedAtTest {
    public static void main(String[] args) {
        price();
        fringe();
        fringeOfNine();
        fringeByColour();
        trouble();
        invite();
        inviteFirstOfLikeOnes();
        inviteRefused();
        inviteAtRefused();
        inviteAtNoneSuch();
        inviteTakesCarpetAndSteps();
        Check.end();
    }

    private static void price() {
        AbsentCarpets x = Check.house("AR04R09P0a90P0b00P1c30");
        Check.due("price(0) of nothing", x.price(0), 0);
        x.dinner(0, 0);
        Check.due("price(0) of steps alone is 0 at least", x.price(0), 0);
        x.dinner(3, 1);
        Check.due("a red knot counts twice, less the steps", x.price(0), 20 + 1 - 2);
        Check.due("price(1)", x.price(1), 0);
        x.dinner(4, 0);
        Check.due("the first knot is worn away", x.price(0), 1);
        Check.due("price(1) of grudge 3, less 2 steps", x.price(1), 4 - 2);
        x.dinner(3, 2);
        Check.due("price(0)", x.price(0), 1 + 10 + 2);
        Check.due("price(1)", x.price(1), 4 - 3);
        Check.due("price(2)", x.price(2), AbsentCarpets.UNKNOWN);
        Check.due("price(-1)", x.price(-1), AbsentCarpets.UNKNOWN);
        Check.due("price(MIN)", x.price(Integer.MIN_VALUE), AbsentCarpets.UNKNOWN);
    }

    private static void fringe() {
        AbsentCarpets x = Check.house("AR09R09P0a10P1a90P1b00P0b00");
        Check.due("fringe(0, 1) of nothing", x.fringe(0, 1), 0);
        x.dinner(3, 0);
        Check.due("one colour", x.fringe(0, 1), 1);
        x.dinner(3, 1);
        Check.due("one of them is red", x.fringe(0, 1), 0);
        x.moth(0);
        x.moth(1);
        x.dinner(3, 3);
        Check.due("both are red", x.fringe(0, 1), 2);
        Check.due("the other way round", x.fringe(1, 0), 2);
        x.dinner(4, 0);
        Check.due("from the ends", x.fringe(0, 1), 0);
        x.undo();
        x.mend(0);
        x.mend(1);
        x.dinner(4, 0);
        x.dinner(8, 0);
        Check.due("whose it is does not matter, all of both", x.fringe(0, 1), 3);
        Check.due("fringe(0, 0)", x.fringe(0, 0), AbsentCarpets.OUTSIDE);
        Check.due("fringe(1, 1)", x.fringe(1, 1), AbsentCarpets.OUTSIDE);
        Check.due("fringe(2, 2)", x.fringe(2, 2), AbsentCarpets.UNKNOWN);
        Check.due("fringe(0, 2)", x.fringe(0, 2), AbsentCarpets.UNKNOWN);
        Check.due("fringe(2, 0)", x.fringe(2, 0), AbsentCarpets.UNKNOWN);
        Check.due("fringe(-1, 0)", x.fringe(-1, 0), AbsentCarpets.UNKNOWN);
        Check.due("fringe(0, -1)", x.fringe(0, -1), AbsentCarpets.UNKNOWN);
    }

    private static void fringeOfNine() {
        AbsentCarpets x = Check.house("AR09R20P0a10P1a90P1b00");
        x.dinner(4, 0);
        for (int i = 1; i <= 9; i++) {
            x.dinner(3, 0);
            x.mend(1);
            Check.due("fringe behind " + i, x.fringe(0, 1), i);
        }
        x.dinner(3, 0);
        Check.due("the first is done, the second is longer", x.fringe(1, 0), 9);
    }

    /** Each two of five people, all red or none. */
    private static void fringeByColour() {
        String colours = "abcda";
        for (int i = 0; i < 5; i++) {
            for (int j = 0; j < 5; j++) {
                StringBuilder text = new StringBuilder("AR09R09");
                for (int p = 0; p < 5; p++) {
                    text.append('P').append(p == i ? 0 : 1).append(colours.charAt(p)).append("00");
                }
                AbsentCarpets x = Check.house(text.toString());
                int two = 1 << i | 1 << j;
                for (int lie = 0; lie < 32 && i != j; lie++) {
                    if ((lie & ~two) == 0) {
                        x.dinner(two, lie);
                        boolean alike = colours.charAt(i) == colours.charAt(j) && (lie == 0 || lie == two);
                        Check.due("fringe of " + i + " and " + j, x.fringe(0, 1), alike ? 1 : 0);
                        x.undo();
                    }
                }
            }
        }
    }

    private static void trouble() {
        AbsentCarpets x = Check.house("AR09P0a10P0a20P0a40Q013Q025Q127");
        long[] due = {7, 6, 5, 4 + 3, 3, 2 + 5, 1 + 7, 3 + 5 + 7};
        for (int those = 0; those < 8; those++) {
            Check.due("trouble(" + those + ")", x.trouble(those), due[those]);
        }
        Check.due("trouble(8)", x.trouble(8), AbsentCarpets.OUTSIDE);
        Check.due("trouble(-1)", x.trouble(-1), AbsentCarpets.OUTSIDE);
        Check.due("trouble(MIN)", x.trouble(Integer.MIN_VALUE), AbsentCarpets.OUTSIDE);
        Check.due("trouble(MAX)", x.trouble(Integer.MAX_VALUE), AbsentCarpets.OUTSIDE);
        AbsentCarpets five = Check.house("AR01P0a00P0a00P0a00P0a00P0a00Q431Q402Q103");
        Check.due("trouble(31)", five.trouble(31), 6);
        Check.due("trouble(17)", five.trouble(17), 2);
        Check.due("trouble(24)", five.trouble(24), 1);
        Check.due("trouble(32)", five.trouble(32), AbsentCarpets.OUTSIDE);
    }

    private static void invite() {
        AbsentCarpets x = Check.house("AR02R01P0a10P0a20P1a90Q019");
        Check.planIs(x, 0, 1, 1 + 2, 4);
        Check.planIs(x, 0, 2, 1 + 1, 6, 6);
        Check.planIs(x, 0, 3, 3, 6, 6, 6);
        // by a fifth dinner the fourth step of the other one has worn a knot away
        Check.planIs(x, 0, 5, 5, 6, 6, 6, 6, 6);
        Check.planIs(x, 1, 1, 1 + 9, 2);
        Check.planIs(x, 1, 2, 10 + 1, 2, 6);
        AbsentCarpets far = Check.house("AR30P0a00P0a00P0a00P0a00P0a00");
        Check.planIs(far, 0, 5, AbsentCarpets.NONE);
        Check.planIs(far, 0, 6, 0, 0, 0, 0, 0, 0, 0);
        AbsentCarpets none = Check.house("AR01R01P0a00");
        Check.planIs(none, 1, 6, AbsentCarpets.NONE);
    }

    private static void inviteFirstOfLikeOnes() {
        AbsentCarpets x = Check.house("AR02P0a00P0a00");
        Check.planIs(x, 0, 1, 0, 0);
        Check.planIs(x, 0, 2, 0, 0, 0);
        AbsentCarpets y = Check.house("AR01R01P0a10P0a10P1a00");
        Check.planIs(y, 0, 1, 1, 1);
        Check.planIs(y, 0, 2, 1, 1, 3);
        Check.planIs(y, 1, 1, 0, 3);
        Check.planIs(y, 1, 2, 0, 3, 3);
        String before = Check.looks(y);
        y.invite(0, 6);
        y.inviteAt(0, 6, 5);
        Check.holds("to look changes nothing", before.equals(Check.looks(y)));
    }

    private static void inviteRefused() {
        AbsentCarpets x = Check.house("AR02R09P0a10");
        Check.due("invite(2, 1)", x.invite(2, 1), AbsentCarpets.UNKNOWN);
        Check.due("invite(-1, 1)", x.invite(-1, 1), AbsentCarpets.UNKNOWN);
        Check.due("invite(2, 0)", x.invite(2, 0), AbsentCarpets.UNKNOWN);
        Check.due("invite(0, 0)", x.invite(0, 0), AbsentCarpets.OUTSIDE);
        Check.due("invite(0, 7)", x.invite(0, 7), AbsentCarpets.OUTSIDE);
        Check.due("invite(0, -1)", x.invite(0, -1), AbsentCarpets.OUTSIDE);
        Check.due("invite(0, MAX)", x.invite(0, Integer.MAX_VALUE), AbsentCarpets.OUTSIDE);
        Check.due("invite(1, 7) that can not be", x.invite(1, 7), AbsentCarpets.OUTSIDE);
        Check.due("invite(1, 6) that can not be", x.invite(1, 6), AbsentCarpets.NONE);
    }

    private static void inviteAtRefused() {
        AbsentCarpets x = Check.house("AR02R09P0a10");
        Check.due("inviteAt(2, 1, 0)", x.inviteAt(2, 1, 0), AbsentCarpets.UNKNOWN);
        Check.due("inviteAt(2, 1, 1)", x.inviteAt(2, 1, 1), AbsentCarpets.UNKNOWN);
        Check.due("inviteAt(-1, 0, -1)", x.inviteAt(-1, 0, -1), AbsentCarpets.UNKNOWN);
        Check.due("inviteAt(0, 0, 0)", x.inviteAt(0, 0, 0), AbsentCarpets.OUTSIDE);
        Check.due("inviteAt(0, 7, 0)", x.inviteAt(0, 7, 0), AbsentCarpets.OUTSIDE);
        Check.due("inviteAt(0, 7, 7)", x.inviteAt(0, 7, 7), AbsentCarpets.OUTSIDE);
        Check.due("inviteAt(0, 0, -1)", x.inviteAt(0, 0, -1), AbsentCarpets.OUTSIDE);
        Check.due("inviteAt(0, MIN, MIN)", x.inviteAt(0, Integer.MIN_VALUE, Integer.MIN_VALUE),
                AbsentCarpets.OUTSIDE);
    }

    /** Room 0 can be done in 2 to 6 dinners, room 1 in none; no dinner is there but 0 to n - 1. */
    private static void inviteAtNoneSuch() {
        AbsentCarpets x = Check.house("AR02R09P0a10");
        int[] noneSuch = {Integer.MIN_VALUE, -2, -1, 6, 7, 100, Integer.MAX_VALUE};
        for (int n = 1; n <= 6; n++) {
            for (int room = 0; room < 2; room++) {
                for (int i : noneSuch) {
                    Check.due("inviteAt(" + room + ", " + n + ", " + i + ")", x.inviteAt(room, n, i),
                            AbsentCarpets.NONE);
                }
                Check.due("inviteAt(" + room + ", " + n + ", " + n + ")", x.inviteAt(room, n, n),
                        AbsentCarpets.NONE);
                boolean canBe = room == 0 && n >= 2;
                Check.holds("the last one of " + n + " in room " + room,
                        canBe == (x.inviteAt(room, n, n - 1) >= 0));
            }
        }
    }

    /** One person whose grudge makes each absence dear. */
    private static void inviteTakesCarpetAndSteps() {
        AbsentCarpets x = Check.house("AR02P0a50");
        Check.planIs(x, 0, 1, AbsentCarpets.NONE);
        Check.planIs(x, 0, 2, 10, 0, 0);
        x.dinner(1, 0);
        x.dinner(1, 0);
        Check.planIs(x, 0, 1, 0, 1);
        Check.planIs(x, 0, 3, 0, 1, 1, 1);
        Check.planIs(x, 0, 4, 5, 0, 1, 1, 1);
        x.dinner(0, 0);
        Check.planIs(x, 0, 2, 0, 1, 1);
        Check.planIs(x, 0, 3, 5, 0, 1, 1);
        x.mend(0);
        Check.planIs(x, 0, 3, 0, 1, 1, 1);
        x.moth(0);
        Check.planIs(x, 0, 1, 5, 0);
        Check.planIs(x, 0, 3, 5, 0, 1, 1);
    }
}
