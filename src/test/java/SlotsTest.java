/** Promises 25 to 27: what is kept and gone on from, and what is counted. */
public final class SlotsTest {
    private static final String HOUSE = "AR03R02R09P0a31P1b05P0c97Q019Q124";

    public static void main(String[] args) {
        keep();
        again();
        againEmptiesTheRow();
        refused();
        count();
        countRefused();
        Check.end();
    }

    private static void keep() {
        AbsentCarpets x = Check.house(HOUSE);
        Check.due("keep(0) of no dinner", x.keep(0), 0);
        x.dinner(3, 2);
        x.dinner(0, 0);
        x.moth(0);
        String before = Check.looks(x);
        Check.due("keep(1)", x.keep(1), 2);
        Check.holds("to keep changes nothing", before.equals(Check.looks(x)));
        Check.due("what was kept is not an act", x.undo(), 2);
    }

    private static void again() {
        AbsentCarpets x = Check.house(HOUSE);
        x.dinner(3, 2);
        x.dinner(4, 4);
        x.keep(0);
        Check.due("kept: steps", x.room(0, 2), 2);
        x.dinner(7, 0);
        x.keep(1);
        x.dinner(0, 0);
        x.mend(0);
        x.moth(1);
        x.see(1, 2);
        x.seed(6);
        Check.due("again(0)", x.again(0), 2);
        Check.due("count(3)", x.count(3), 2);
        Check.due("knot(0, 0)", x.knot(0, 0), 0);
        Check.due("knot(0, 1)", x.knot(0, 1), 5);
        Check.due("knot(0, 2)", x.knot(0, 2), AbsentCarpets.NONE);
        Check.due("knot(1, 0)", x.knot(1, 0), 3);
        Check.due("room(1, 1)", x.room(1, 1), 1);
        Check.due("room(0, 2)", x.room(0, 2), 2);
        Check.due("room(1, 2)", x.room(1, 2), 1);
        Check.due("what was told stays", x.see(1, 2), 2);
        Check.due("the seed stays", x.seed(6), 6);
        Check.due("again(1)", x.again(1), 3);
        Check.due("room(0, 1)", x.room(0, 1), 3);
        Check.due("room(1, 1)", x.room(1, 1), 2);
        x.dinner(0, 0);
        Check.due("again(0) once more", x.again(0), 2);
        Check.due("it goes on from there", x.dinner(1, 0), 1);
        Check.due("keep(0) over the old", x.keep(0), 3);
        x.house();
        Check.due("again(0) of another house", x.again(0), AbsentCarpets.STATE);
    }

    private static void againEmptiesTheRow() {
        AbsentCarpets x = Check.house(HOUSE);
        x.dinner(3, 2);
        x.keep(0);
        x.dinner(3, 2);
        x.again(0);
        Check.due("count(6)", x.count(6), 0);
        Check.due("undo()", x.undo(), AbsentCarpets.STATE);
        Check.due("count(3)", x.count(3), 1);
    }

    private static void refused() {
        AbsentCarpets x = Check.house(HOUSE);
        x.dinner(3, 2);
        String before = Check.looks(x);
        int[] wrong = {-1, 2, Integer.MIN_VALUE, Integer.MAX_VALUE};
        for (int slot : wrong) {
            Check.due("keep(" + slot + ")", x.keep(slot), AbsentCarpets.UNKNOWN);
            Check.due("again(" + slot + ")", x.again(slot), AbsentCarpets.UNKNOWN);
        }
        Check.due("again(0)", x.again(0), AbsentCarpets.STATE);
        x.keep(0);
        Check.due("again(1)", x.again(1), AbsentCarpets.STATE);
        Check.holds("what is refused changes nothing", before.equals(Check.looks(x)));
    }

    private static void count() {
        AbsentCarpets x = Check.house(HOUSE);
        x.dinner(3, 2);
        x.dinner(6, 0);
        x.moth(0);
        x.see(0, 1);
        x.see(3, 1);
        x.write(1, 0);
        long[] due = {34, 3, 3, 2, 2, 3, 3, 2, 2};
        for (int what = 0; what <= 8; what++) {
            Check.due("count(" + what + ")", x.count(what), due[what]);
        }
        x.dinner(5, 0);
        x.dinner(5, 0);
        Check.due("count(4)", x.count(4), 3);
        Check.due("count(5)", x.count(5), 5);
    }

    private static void countRefused() {
        AbsentCarpets x = new AbsentCarpets();
        Check.due("count(-1)", x.count(-1), AbsentCarpets.OUTSIDE);
        Check.due("count(9)", x.count(9), AbsentCarpets.OUTSIDE);
        Check.due("count(MIN)", x.count(Integer.MIN_VALUE), AbsentCarpets.OUTSIDE);
    }
}
