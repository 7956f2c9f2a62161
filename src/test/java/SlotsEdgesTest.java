/** Promises 25 to 27, sentence by sentence: what is least, most, empty and full. Refusals: RefusalsTest. */
public final class SlotsEdgesTest {
    private static final int STATE = AbsentCarpets.STATE, UNKNOWN = AbsentCarpets.UNKNOWN, OUTSIDE = AbsentCarpets.OUTSIDE;
    private static final String FIVE = "P0a00P0a00P0a00P0a00P0a00";

    public static void main(String[] args) {
        keep();
        again();
        count();
        countMost();
        Check.sentence("What it is: at most 512 calls, the last one", SlotsEdgesTest::theLastCall);
        Check.end();
    }

    // ---- promise 25

    private static void keep() {
        Check.sentence("25: SLOTS 0 to 1", SlotsEdgesTest::leastAndMostSlot);
        Check.sentence("25: how many DINNERS there were, none at first", SlotsEdgesTest::dinnersKept);
        Check.sentence("25: they are kept as they are now", SlotsEdgesTest::keptAsTheyAre);
        Check.sentence("25: what was kept before is gone", SlotsEdgesTest::keptOver);
        Check.sentence("25: to keep changes nothing else", SlotsEdgesTest::keepChangesNothing);
    }

    private static void leastAndMostSlot() {
        AbsentCarpets x = Check.house("AR30P0a00");
        Check.due("keep(0)", x.keep(0), 0);
        Check.due("again(1)", x.again(1), STATE);
        Check.due("keep(1)", x.keep(1), 0);
        for (int slot : Check.beyond(0, 1)) {
            Check.due("keep(" + slot + ")", x.keep(slot), UNKNOWN);
            Check.due("again(" + slot + ")", x.again(slot), UNKNOWN);
        }
    }

    private static void dinnersKept() {
        AbsentCarpets x = new AbsentCarpets();
        Check.due("keep(0) of no house", x.keep(0), 0);
        x.dinner(0, 0);
        Check.due("keep(1) of one dinner", x.keep(1), 1);
        x.undo();
        Check.due("keep(1) of one undone", x.keep(1), 0);
        Check.dinners(x, 20, 0, 0);
        Check.due("keep(0) of more than the row holds", x.keep(0), 20);
        Check.due("again(0)", x.again(0), 20);
        Check.due("again(1)", x.again(1), 0);
    }

    private static void keptAsTheyAre() {
        AbsentCarpets x = Check.house("AR30R30P0a00P1a00");
        x.dinner(1, 1);
        x.keep(0);
        x.dinner(3, 0);
        x.moth(0);
        x.mend(1);
        x.undo();
        x.undo();
        x.undo();
        x.undo();
        x.dinner(2, 2);
        Check.due("again(0)", x.again(0), 1);
        Check.carpetIs(x, 0, "1", 0);
        Check.carpetIs(x, 1, "", 1);
    }

    private static void keptOver() {
        AbsentCarpets x = Check.house("AR30P0a00");
        x.dinner(1, 0);
        x.keep(0);
        x.keep(1);
        x.dinner(1, 1);
        Check.due("keep(0) once more", x.keep(0), 2);
        Check.due("again(1) is the old one", x.again(1), 1);
        Check.carpetIs(x, 0, "0", 0);
        Check.due("again(0) is the new one", x.again(0), 2);
        Check.carpetIs(x, 0, "01", 0);
    }

    private static void keepChangesNothing() {
        AbsentCarpets x = RefusalsTest.livedIn();
        String before = Check.looks(x);
        Check.due("keep(1)", x.keep(1), 2);
        Check.holds("all looks as it was", before.equals(Check.looks(x)));
        Check.due("undo(): THE ROW is as it was", x.undo(), 2);
        Check.due("again(0): the other slot is as it was", x.again(0), 1);
    }

    // ---- promise 26

    private static void again() {
        Check.sentence("26: STATE: none were kept", SlotsEdgesTest::noneKept);
        Check.sentence("26: CARPETS as they were kept, none to 90 KNOTS", SlotsEdgesTest::carpetsAgain);
        Check.sentence("26: STEPS as they were kept", SlotsEdgesTest::stepsAgain);
        Check.sentence("26: how many DINNERS there were, fewer or more than now", SlotsEdgesTest::dinnersAgain);
        Check.sentence("26: THE ROW of ACTS is empty when one goes on", SlotsEdgesTest::noActsAgain);
        Check.sentence("26: what is kept stays, both SLOTS", SlotsEdgesTest::keptStays);
        Check.sentence("26: nothing else goes back", SlotsEdgesTest::theRestStays);
        Check.sentence("26: another HOUSE: none were kept", SlotsEdgesTest::anotherHouse);
    }

    private static void noneKept() {
        AbsentCarpets x = Check.house("AR30P0a00");
        x.dinner(1, 0);
        Check.due("again(0)", x.again(0), STATE);
        Check.due("again(1)", x.again(1), STATE);
        x.keep(1);
        Check.due("again(0) if 1 alone was kept", x.again(0), STATE);
        Check.due("count(6): it is refused, so the row stays", x.count(6), 1);
        Check.due("again(1)", x.again(1), 1);
        Check.due("again(1) of what was kept stays", x.again(1), 1);
    }

    private static void carpetsAgain() {
        AbsentCarpets x = Check.house("AR30R30R30P0a00P1a00P2a00");
        x.keep(0);
        x.dinner(7, 5);
        Check.dinners(x, 29, 7, 2);
        x.keep(1);
        Check.dinners(x, 4, 0, 0);
        x.moth(2);
        Check.due("again(1)", x.again(1), 30);
        Check.due("count(5)", x.count(5), 90);
        Check.due("count(4)", x.count(4), 7);
        for (int room = 0; room < 3; room++) {
            Check.due("the first knot", x.knot(room, 0), room == 1 ? 2 : 2 * room + 1);
            Check.due("the last knot", x.knot(room, 29), room == 1 ? 3 : 2 * room);
        }
        Check.due("again(0)", x.again(0), 0);
        Check.due("count(5)", x.count(5), 0);
        Check.due("count(4)", x.count(4), 0);
    }

    private static void stepsAgain() {
        AbsentCarpets x = Check.house("AR30R30R30P0a00P1a00P2a00");
        x.dinner(0, 0);
        x.dinner(3, 0);
        x.dinner(6, 0);
        x.keep(0);
        x.dinner(0, 0);
        x.mend(0);
        Check.due("again(0)", x.again(0), 3);
        Check.due("room(0, 2)", x.room(0, 2), 2);
        Check.due("room(1, 2)", x.room(1, 2), 1);
        Check.due("room(2, 2)", x.room(2, 2), 2);
    }

    private static void dinnersAgain() {
        AbsentCarpets x = Check.house("AR30P0a00");
        x.keep(0);
        Check.dinners(x, 3, 0, 0);
        x.keep(1);
        Check.due("again(0)", x.again(0), 0);
        Check.due("count(3)", x.count(3), 0);
        Check.due("again(1)", x.again(1), 3);
        Check.due("count(3)", x.count(3), 3);
        x.dinner(0, 0);
        Check.due("count(3) behind one more", x.count(3), 4);
    }

    private static void noActsAgain() {
        AbsentCarpets x = Check.house("AR30P0a00");
        x.dinner(1, 0);
        x.keep(0);
        Check.dinners(x, 20, 1, 0);
        x.again(0);
        Check.due("count(6)", x.count(6), 0);
        Check.due("undo()", x.undo(), STATE);
        x.dinner(1, 1);
        Check.due("count(6) of the next act", x.count(6), 1);
        Check.due("undo() of it", x.undo(), 0);
        Check.carpetIs(x, 0, "0", 0);
        Check.due("undo() of no more", x.undo(), STATE);
    }

    private static void keptStays() {
        AbsentCarpets x = Check.house("AR30P0a00");
        x.dinner(1, 0);
        x.keep(0);
        x.dinner(1, 1);
        x.keep(1);
        for (int times = 0; times < 3; times++) {
            Check.due("again(0)", x.again(0), 1);
            Check.carpetIs(x, 0, "0", 0);
            x.moth(0);
            x.dinner(0, 0);
            Check.due("again(1)", x.again(1), 2);
            Check.carpetIs(x, 0, "01", 0);
            x.dinner(0, 0);
        }
    }

    private static void theRestStays() {
        AbsentCarpets x = Check.house("AR30P0a00P0b00Q019");
        x.keep(0);
        x.write(1, 'X');
        x.see(1, 3);
        x.seed(8);
        x.again(0);
        Check.due("count(0)", x.count(0), 19);
        Check.due("count(2)", x.count(2), 2);
        Check.due("quarrel(1, 0)", x.quarrel(1, 0), 9);
        Check.due("see(1, 0)", x.see(1, 0), 3);
        Check.due("seed(0)", x.seed(0), 8);
    }

    private static void anotherHouse() {
        AbsentCarpets x = Check.house("AR30P0a00");
        x.dinner(1, 0);
        x.keep(0);
        x.keep(1);
        x.house();
        Check.due("again(0)", x.again(0), STATE);
        Check.due("again(1)", x.again(1), STATE);
        x.keep(1);
        Check.due("again(1) of the new one", x.again(1), 0);
        Check.due("again(0) still", x.again(0), STATE);
        x.wipe();
        Check.due("house() that is refused", x.house(), STATE);
        Check.due("again(1): what was kept stays then", x.again(1), 0);
    }

    // ---- promise 27

    private static void count() {
        Check.sentence("27: 0 to 8, and OUTSIDE just beyond", SlotsEdgesTest::leastAndMostWhat);
        Check.sentence("27: 0 bytes of THE TEXT, 0 to 64", SlotsEdgesTest::countBytes);
        Check.sentence("27: 1 ROOMS, 0 to 3", SlotsEdgesTest::countRooms);
        Check.sentence("27: 2 PEOPLE, 0 to 5", SlotsEdgesTest::countPeople);
        Check.sentence("27: 3 DINNERS, more than the row holds", SlotsEdgesTest::countDinners);
        Check.sentence("27: 4 ROOMS whose CARPET is DONE (bits)", SlotsEdgesTest::countDone);
    }

    private static void countMost() {
        Check.sentence("27: 5 KNOTS of all, 0 to 90", SlotsEdgesTest::countKnots);
        Check.sentence("27: 6 ACTS in the row, 0 to 16", SlotsEdgesTest::countActs);
        Check.sentence("27: 7 COLOURS of which something is told, 0 to 4", SlotsEdgesTest::countColours);
        Check.sentence("27: 8 QUARRELS, none to as many as the text holds", SlotsEdgesTest::countQuarrels);
    }

    private static void leastAndMostWhat() {
        AbsentCarpets x = new AbsentCarpets();
        for (int what = 0; what <= 8; what++) {
            Check.due("count(" + what + ")", x.count(what), 0);
        }
        for (int what : Check.beyond(0, 8)) {
            Check.due("count(" + what + ")", x.count(what), OUTSIDE);
        }
    }

    private static void countBytes() {
        AbsentCarpets x = new AbsentCarpets();
        for (int bytes = 0; bytes <= 64; bytes++) {
            Check.due("count(0)", x.count(0), bytes);
            x.write(1, 'A');
        }
        Check.due("count(0) behind what is too much", x.count(0), 64);
        x.wipe();
        Check.due("count(0) of none", x.count(0), 0);
    }

    private static void countRooms() {
        for (int rooms = 0; rooms <= 3; rooms++) {
            AbsentCarpets x = Check.house("AR01R01R01".substring(0, 1 + 3 * rooms));
            Check.due("count(1)", x.count(1), rooms);
            x.write(3, Check.packed("R01"));
            Check.due("count(1) of what is only told", x.count(1), rooms);
        }
    }

    private static void countPeople() {
        for (int people = 0; people <= 5; people++) {
            AbsentCarpets x = Check.house("AR01" + FIVE.substring(0, 5 * people));
            Check.due("count(2)", x.count(2), people);
            x.wipe();
            Check.due("count(2) of those that live there", x.count(2), people);
        }
    }

    private static void countDinners() {
        AbsentCarpets x = Check.house("AR30P0a00");
        for (int dinners = 0; dinners <= 40; dinners++) {
            Check.due("count(3)", x.count(3), dinners);
            x.dinner(dinners % 2, 0);
        }
        x.moth(0);
        x.mend(0);
        Check.due("count(3): a moth and mending are no dinners", x.count(3), 41);
    }

    private static void countDone() {
        for (int away = 0; away < 8; away++) {
            AbsentCarpets x = Check.house("AR01R01R01P0a00P1a00P2a00");
            x.dinner(away, 0);
            Check.due("count(4)", x.count(4), away);
        }
        AbsentCarpets x = Check.house("AR01R02R30P0a00P1a00P2a00");
        x.dinner(7, 0);
        Check.due("count(4) behind one", x.count(4), 1);
        x.dinner(7, 0);
        Check.due("count(4) behind two", x.count(4), 3);
        Check.dinners(x, 27, 7, 0);
        Check.due("count(4) behind 29", x.count(4), 3);
        x.dinner(7, 0);
        Check.due("count(4) behind 30", x.count(4), 7);
        x.moth(0);
        Check.due("count(4) behind a moth", x.count(4), 6);
    }

    private static void countKnots() {
        AbsentCarpets x = Check.house("AR30R30R30P0a00P1a00P2a00");
        for (int knots = 0; knots <= 90; knots += 3) {
            Check.due("count(5)", x.count(5), knots);
            x.dinner(7, 0);
        }
        Check.due("count(5) of full ones", x.count(5), 90);
        x.moth(2);
        Check.due("count(5) behind a moth", x.count(5), 89);
    }

    private static void countActs() {
        AbsentCarpets x = Check.house("AR30P0a00");
        for (int acts = 0; acts <= 18; acts++) {
            Check.due("count(6)", x.count(6), Math.min(16, acts));
            x.dinner(1, 0);
        }
    }

    private static void countColours() {
        AbsentCarpets x = new AbsentCarpets();
        for (int colours = 0; colours <= 3; colours++) {
            Check.due("count(7)", x.count(7), colours);
            x.see(3 - colours, 0);
            x.see(3 - colours, 5);
        }
        Check.due("count(7) of all", x.count(7), 4);
        x.unsee();
        Check.due("count(7) of none", x.count(7), 0);
    }

    private static void theLastCall() {
        AbsentCarpets x = new AbsentCarpets();
        x.write(8, Check.packed("AR30P0a0"));
        x.write(1, '0');
        x.house();
        for (int dinners = 1; dinners <= 508; dinners++) {
            x.dinner(0, 0);
        }
        Check.due("count(3) as the 512th call", x.count(3), 508);
    }

    private static void countQuarrels() {
        String told = "Q011Q021Q031Q121Q131Q231Q041Q141";
        for (int quarrels = 0; quarrels <= 8; quarrels++) {
            AbsentCarpets x = Check.house("AR01" + FIVE + told.substring(0, 4 * quarrels));
            Check.due("count(8)", x.count(8), quarrels);
        }
        AbsentCarpets all = Check.house("AR01P0a00P0a00P0a00P0a00" + told.substring(0, 24));
        Check.due("count(8) of four people", all.count(8), 6);
        all.wipe();
        all.write(1, 'A');
        all.house();
        Check.due("count(8) of nobody", all.count(8), 0);
    }
}
