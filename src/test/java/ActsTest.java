/** Promises 10 to 13: dinners, moths, mending, and what is undone. */
public final class ActsTest {
    public static void main(String[] args) {
        dinnerWeaves();
        dinnerOfADoneCarpet();
        dinnerWears();
        dinnerWearsAFullOne();
        dinnerRefused();
        moth();
        mend();
        undo();
        undoOfMany();
        Check.end();
    }

    private static void dinnerWeaves() {
        AbsentCarpets x = Check.house("AR09R09P0a00P1a00P0a00P0a00");
        Check.due("dinner(13, 9)", x.dinner(13, 9), 3);
        Check.carpetIs(x, 0, "147", 0);
        Check.carpetIs(x, 1, "", 1);
        Check.due("dinner(6, 2)", x.dinner(6, 2), 2);
        Check.carpetIs(x, 0, "1474", 2);
        Check.carpetIs(x, 1, "3", 1);
        Check.due("count(3)", x.count(3), 2);
        Check.due("count(6)", x.count(6), 2);
    }

    private static void dinnerOfADoneCarpet() {
        AbsentCarpets x = Check.house("AR02R30P0a00P0b00P0c00P1d00");
        Check.due("dinner(15, 0)", x.dinner(15, 0), 3);
        Check.carpetIs(x, 0, "02", 0);
        Check.carpetIs(x, 1, "6", 0);
        Check.due("dinner(7, 7) of a done carpet", x.dinner(7, 7), 0);
        Check.carpetIs(x, 0, "02", 0);
        Check.due("count(3)", x.count(3), 2);
        for (int k = 2; k <= 30; k++) {
            Check.due("dinner(8, 8)", x.dinner(8, 8), 1);
        }
        Check.due("all 30 knots", x.room(1, 1), 30);
        Check.due("dinner(8, 8) behind 30", x.dinner(8, 8), 0);
    }

    private static void dinnerWears() {
        AbsentCarpets x = Check.house("AR02P0a00P0a00P0a00P0a00P0a00");
        Check.due("three are away, two weave", x.dinner(28, 0), 2);
        Check.carpetIs(x, 0, "46", 2);
        Check.due("weaving is ahead of wearing", x.dinner(3, 0), 0);
        Check.carpetIs(x, 0, "6", 1);
        Check.due("dinner(1, 1)", x.dinner(1, 1), 1);
        Check.carpetIs(x, 0, "1", 1);
        Check.due("dinner(0, 0)", x.dinner(0, 0), 0);
        Check.carpetIs(x, 0, "", 2);
        Check.due("there is nothing to wear", x.dinner(0, 0), 0);
        Check.carpetIs(x, 0, "", 3);
        Check.due("twice in one dinner", x.dinner(0, 0), 0);
        Check.carpetIs(x, 0, "", 0);
        AbsentCarpets y = Check.house("AR09P0a00P0a00P0a00P0a00P0a00");
        y.dinner(31, 0);
        y.moth(0);
        y.dinner(3, 0);
        Check.carpetIs(y, 0, "024602", 3);
        y.dinner(0, 0);
        Check.carpetIs(y, 0, "4602", 0);
    }

    private static void dinnerWearsAFullOne() {
        AbsentCarpets x = Check.house("AR30R30R30P0a00P1a00P2a00");
        for (int i = 0; i < 30; i++) {
            x.dinner(7, i == 0 ? 7 : 0);
        }
        for (int i = 0; i < 3; i++) {
            x.dinner(0, 0);
        }
        for (int room = 0; room < 3; room++) {
            Check.due("a full carpet", x.room(room, 1), 30);
            Check.due("its first knot", x.knot(room, 0), 2 * room + 1);
        }
        x.dinner(0, 0);
        for (int room = 0; room < 3; room++) {
            Check.due("the first is worn away", x.room(room, 1), 29);
            Check.due("none is red now", x.room(room, 4), 0);
            Check.due("the others stay", x.knot(room, 28), 2 * room);
        }
    }

    private static void dinnerRefused() {
        AbsentCarpets x = Check.house("AR09P0a00P0a00");
        x.dinner(1, 0);
        String before = Check.looks(x);
        int[][] wrong = {{4, 0}, {-1, 0}, {-1, -1}, {Integer.MIN_VALUE, 0}, {Integer.MAX_VALUE, 0},
            {1, 2}, {0, 1}, {3, 4}, {3, -1}, {0, Integer.MIN_VALUE}, {2, 3}, {8, 8}};
        for (int[] w : wrong) {
            Check.due("dinner(" + w[0] + ", " + w[1] + ")", x.dinner(w[0], w[1]), AbsentCarpets.OUTSIDE);
        }
        Check.holds("what is refused changes nothing", before.equals(Check.looks(x)));
    }

    private static void moth() {
        AbsentCarpets x = Check.house("AR03R03P0a00P1a00P0a00");
        Check.due("moth(0) of no knots", x.moth(0), AbsentCarpets.STATE);
        x.dinner(5, 4);
        Check.due("moth(0)", x.moth(0), 5);
        Check.due("moth(1)", x.moth(1), AbsentCarpets.STATE);
        Check.carpetIs(x, 0, "0", 0);
        Check.due("acts", x.count(6), 2);
        Check.due("dinners", x.count(3), 1);
        Check.due("moth(0) again", x.moth(0), 0);
        Check.due("moth(0) of no more", x.moth(0), AbsentCarpets.STATE);
        Check.due("moth(2)", x.moth(2), AbsentCarpets.UNKNOWN);
        Check.due("moth(-1)", x.moth(-1), AbsentCarpets.UNKNOWN);
        Check.due("moth(MAX)", x.moth(Integer.MAX_VALUE), AbsentCarpets.UNKNOWN);
        Check.due("refused ones are no acts", x.count(6), 3);
        x.dinner(2, 2);
        x.dinner(2, 0);
        Check.due("moth(1) eats the last", x.moth(1), 2);
        Check.carpetIs(x, 1, "3", 1);
        Check.due("dinners", x.count(3), 3);
        x.mend(0);
        x.dinner(1, 0);
        Check.due("a done carpet can be eaten", x.moth(0), 0);
    }

    private static void mend() {
        AbsentCarpets x = Check.house("AR03R03P0a00P1a00P0a00");
        Check.due("mend(0) of no steps", x.mend(0), AbsentCarpets.STATE);
        x.dinner(4, 0);
        x.dinner(0, 0);
        Check.carpetIs(x, 0, "4", 3);
        Check.due("mend(0)", x.mend(0), 3);
        Check.carpetIs(x, 0, "4", 0);
        Check.carpetIs(x, 1, "", 2);
        Check.due("acts", x.count(6), 3);
        Check.due("dinners", x.count(3), 2);
        Check.due("mend(0) again", x.mend(0), AbsentCarpets.STATE);
        Check.due("mend(2)", x.mend(2), AbsentCarpets.UNKNOWN);
        Check.due("mend(-1)", x.mend(-1), AbsentCarpets.UNKNOWN);
        Check.due("mend(MIN)", x.mend(Integer.MIN_VALUE), AbsentCarpets.UNKNOWN);
        Check.due("refused ones are no acts", x.count(6), 3);
        x.dinner(0, 0);
        Check.carpetIs(x, 0, "4", 2);
    }

    private static void undo() {
        AbsentCarpets x = Check.house("AR03R03P0a00P1a00P0a00");
        Check.due("undo() of nothing", x.undo(), AbsentCarpets.STATE);
        String start = Check.looks(x);
        x.dinner(7, 2);
        String one = Check.looks(x);
        x.dinner(0, 0);
        x.dinner(0, 0);
        String three = Check.looks(x);
        Check.carpetIs(x, 0, "4", 0);
        x.mend(1);
        String four = Check.looks(x);
        x.moth(0);
        Check.due("undo() of a moth", x.undo(), 4);
        Check.holds("the moth is undone", four.equals(Check.looks(x)));
        Check.due("undo() of mending", x.undo(), 3);
        Check.holds("the mending is undone", three.equals(Check.looks(x)));
        Check.due("undo() of a dinner", x.undo(), 2);
        Check.carpetIs(x, 0, "04", 2);
        Check.due("undo() of a dinner", x.undo(), 1);
        Check.holds("the dinner is undone", one.equals(Check.looks(x)));
        Check.due("undo() of the first", x.undo(), 0);
        Check.holds("all is undone", start.equals(Check.looks(x)));
        Check.due("undo() of no more", x.undo(), AbsentCarpets.STATE);
        x.dinner(1, 0);
        Check.due("what comes behind undo() is an act", x.count(6), 1);
        Check.due("undo()", x.undo(), 0);
        x.see(1, 1);
        x.seed(9);
        x.dinner(1, 0);
        x.undo();
        Check.due("what was told stays", x.see(1, 1), 1);
        Check.due("the seed stays", x.seed(9), 9);
    }

    private static void undoOfMany() {
        AbsentCarpets x = Check.house("AR30P0a00");
        for (int i = 1; i <= 20; i++) {
            x.dinner(1, i & 1);
            Check.due("acts behind " + i, x.count(6), Math.min(i, 16));
        }
        for (int left = 15; left >= 0; left--) {
            Check.due("undo()", x.undo(), left);
            Check.due("knots", x.room(0, 1), 4 + left);
            Check.due("dinners", x.count(3), 4 + left);
        }
        Check.due("undo() of a forgotten act", x.undo(), AbsentCarpets.STATE);
        Check.carpetIs(x, 0, "1010", 0);
        x.dinner(1, 1);
        x.moth(0);
        x.dinner(0, 0);
        Check.due("undo()", x.undo(), 2);
        Check.due("undo()", x.undo(), 1);
        Check.carpetIs(x, 0, "10101", 0);
    }
}
