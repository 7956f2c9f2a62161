/** Promises 6 to 9, sentence by sentence: what is least, most, empty and full. Refusals: RefusalsTest. */
public final class HouseEdgesTest {
    private static final int NONE = AbsentCarpets.NONE, UNKNOWN = AbsentCarpets.UNKNOWN;
    private static final String FIVE = "P0a00P0a00P0a00P0a00P0a00";

    public static void main(String[] args) {
        room();
        person();
        quarrelAndKnot();
        Check.end();
    }

    // ---- promise 6

    private static void room() {
        Check.sentence("6: how many its CARPET needs (01 to 30)", HouseEdgesTest::roomNeeds);
        Check.sentence("6: how many KNOTS it has, none at first", HouseEdgesTest::roomHas);
        Check.sentence("6: its STEPS, 0 to 3", HouseEdgesTest::roomSteps);
        Check.sentence("6: DONE, if it has as many as it needs", HouseEdgesTest::roomDone);
        Check.sentence("6: RED ones, none to all", HouseEdgesTest::roomRed);
        Check.sentence("6: whose it is, nobody to all", HouseEdgesTest::roomOfWhom);
        Check.sentence("6: there is such a ROOM, as many as are told", HouseEdgesTest::roomsThatAre);
    }

    private static void roomNeeds() {
        AbsentCarpets x = Check.house("AR01R30R10");
        Check.due("room(0, 0)", x.room(0, 0), 1);
        Check.due("room(1, 0)", x.room(1, 0), 30);
        Check.due("room(2, 0)", x.room(2, 0), 10);
    }

    private static void roomHas() {
        AbsentCarpets x = Check.house("AR30R30P1a00");
        Check.due("room(1, 1) at first", x.room(1, 1), 0);
        for (int knots = 1; knots <= 30; knots++) {
            x.dinner(1, 0);
            Check.due("room(1, 1)", x.room(1, 1), knots);
        }
        x.dinner(1, 0);
        Check.due("room(1, 1) of a full one", x.room(1, 1), 30);
        Check.due("room(0, 1) of nobody's", x.room(0, 1), 0);
    }

    private static void roomSteps() {
        AbsentCarpets x = Check.house("AR30R30P1a00");
        for (int came = 0; came <= 8; came++) {
            Check.due("room(1, 2) behind " + came, x.room(1, 2), came % 4);
            Check.due("room(0, 2) of nobody's", x.room(0, 2), 0);
            x.dinner(0, 0);
        }
    }

    private static void roomDone() {
        AbsentCarpets x = Check.house("AR01R02R30P0a00P1a00");
        Check.due("room(0, 3) of none", x.room(0, 3), 0);
        x.dinner(3, 0);
        Check.due("room(0, 3) of 1", x.room(0, 3), 1);
        Check.due("room(1, 3) of 1 of 2", x.room(1, 3), 0);
        x.dinner(3, 0);
        Check.due("room(0, 3) of 1 still", x.room(0, 3), 1);
        Check.due("room(1, 3) of 2", x.room(1, 3), 1);
        Check.due("room(2, 3) of nobody's", x.room(2, 3), 0);
        x.moth(1);
        Check.due("room(1, 3) of one that was eaten", x.room(1, 3), 0);
        Check.dinners(x, 4, 0, 0);
        Check.due("room(0, 3) of one that was worn", x.room(0, 3), 0);
    }

    private static void roomRed() {
        AbsentCarpets x = Check.house("AR30P0a00");
        Check.due("room(0, 4) of none", x.room(0, 4), 0);
        x.dinner(1, 0);
        Check.due("room(0, 4) of one that is not red", x.room(0, 4), 0);
        for (int red = 1; red <= 29; red++) {
            x.dinner(1, 1);
            Check.due("room(0, 4)", x.room(0, 4), red);
        }
        x.dinner(1, 1);
        Check.due("room(0, 4) of a full one", x.room(0, 4), 29);
        x.moth(0);
        Check.due("room(0, 4) of one that was eaten", x.room(0, 4), 28);
    }

    private static void roomOfWhom() {
        AbsentCarpets x = Check.house("AR01R01R01P2a00P0a00P2a00P0a00P2a00");
        Check.due("room(0, 5)", x.room(0, 5), 10);
        Check.due("room(1, 5)", x.room(1, 5), 0);
        Check.due("room(2, 5)", x.room(2, 5), 21);
        Check.due("room(0, 5) of all", Check.house("AR01" + FIVE).room(0, 5), 31);
    }

    private static void roomsThatAre() {
        String text = "A";
        for (int rooms = 0; rooms <= 3; rooms++) {
            AbsentCarpets x = Check.house(text);
            for (int room = -1; room <= 4; room++) {
                boolean is = room >= 0 && room < rooms;
                Check.due("room(" + room + ", 0) of " + rooms, x.room(room, 0), is ? 7 : UNKNOWN);
                Check.due("knot(" + room + ", 0) of " + rooms, x.knot(room, 0), is ? NONE : UNKNOWN);
            }
            text += "R07";
        }
    }

    // ---- promise 7

    private static void person() {
        Check.sentence("7: its ROOM, first to last", HouseEdgesTest::personsRoom);
        Check.sentence("7: COLOUR: 0 a to 3 d", HouseEdgesTest::personsColour);
        Check.sentence("7: GRUDGE, 0 to 9", HouseEdgesTest::personsGrudge);
        Check.sentence("7: tenths, 0 to 9", HouseEdgesTest::personsTenths);
        Check.sentence("7: how many KNOTS there are of it", HouseEdgesTest::personsKnots);
        Check.sentence("7: there is such a PERSON, as many as are told", HouseEdgesTest::peopleThatAre);
    }

    private static void personsRoom() {
        AbsentCarpets x = Check.house("AR01R02R03P0a00P1a00P2a00");
        for (int person = 0; person < 3; person++) {
            Check.due("person(" + person + ", 0)", x.person(person, 0), person);
        }
    }

    private static void personsColour() {
        AbsentCarpets x = Check.house("AR01P0a00P0b00P0c00P0d00");
        for (int person = 0; person < 4; person++) {
            Check.due("person(" + person + ", 1)", x.person(person, 1), person);
        }
    }

    private static void personsGrudge() {
        for (int grudge = 0; grudge <= 9; grudge++) {
            Check.due("person(0, 2)", Check.house("AR01P0a" + grudge + "5").person(0, 2), grudge);
        }
    }

    private static void personsTenths() {
        for (int tenths = 0; tenths <= 9; tenths++) {
            Check.due("person(0, 3)", Check.house("AR01P0a5" + tenths).person(0, 3), tenths);
        }
    }

    private static void personsKnots() {
        AbsentCarpets x = Check.house("AR30P0a00P0a00");
        Check.due("person(1, 4) at first", x.person(1, 4), 0);
        x.dinner(1, 1);
        for (int knots = 1; knots <= 29; knots++) {
            x.dinner(2, knots % 2 * 2);
            x.mend(0);
            Check.due("person(1, 4)", x.person(1, 4), knots);
        }
        x.dinner(2, 0);
        Check.due("person(1, 4) of a full carpet", x.person(1, 4), 29);
        Check.due("person(0, 4) of a full carpet", x.person(0, 4), 1);
        x.mend(0);
        Check.dinners(x, 2, 0, 0);
        Check.due("person(0, 4) behind the fourth step", x.person(0, 4), 0);
        x.moth(0);
        Check.due("person(1, 4) behind a moth", x.person(1, 4), 28);
    }

    private static void peopleThatAre() {
        String text = "AR07";
        for (int people = 0; people <= 5; people++) {
            AbsentCarpets x = Check.house(text);
            for (int person = -1; person <= 6; person++) {
                boolean is = person >= 0 && person < people;
                Check.due("person(" + person + ", 2) of " + people, x.person(person, 2), is ? 3 : UNKNOWN);
                Check.due("quarrel(0, " + person + ") of " + people, x.quarrel(0, person), is ? 0 : UNKNOWN);
                Check.due("quarrel(" + person + ", 0) of " + people, x.quarrel(person, 0), is ? 0 : UNKNOWN);
            }
            text += "P0a34";
        }
    }

    // ---- promises 8 and 9

    private static void quarrelAndKnot() {
        Check.sentence("8: 0: none", HouseEdgesTest::noQuarrel);
        Check.sentence("8: the QUARREL of two, 1 to 9, of the first and the last", HouseEdgesTest::everyQuarrel);
        Check.sentence("9: NONE: there are not so many, of no KNOT", HouseEdgesTest::noKnot);
        Check.sentence("9: the k-th KNOT (from 0)", HouseEdgesTest::firstAndLastKnot);
        Check.sentence("9: 2 times whose it is, and 1 if it is RED", HouseEdgesTest::everyKnot);
    }

    private static void noQuarrel() {
        AbsentCarpets x = Check.house("AR01" + FIVE);
        for (int i = 0; i < 5; i++) {
            for (int j = 0; j < 5; j++) {
                Check.due("quarrel(" + i + ", " + j + ")", x.quarrel(i, j), 0);
            }
        }
    }

    private static void everyQuarrel() {
        for (int v = 1; v <= 9; v++) {
            for (String pair : new String[] {"01", "10", "04", "40", "34", "43", "12", "31"}) {
                AbsentCarpets x = Check.house("AR01" + FIVE + "Q" + pair + v);
                int first = pair.charAt(0) - '0';
                int second = pair.charAt(1) - '0';
                for (int i = 0; i < 5; i++) {
                    for (int j = 0; j < 5; j++) {
                        boolean these = i == first && j == second || i == second && j == first;
                        Check.due("quarrel(" + i + ", " + j + ")", x.quarrel(i, j), these ? v : 0);
                    }
                }
            }
        }
    }

    private static void noKnot() {
        AbsentCarpets x = Check.house("AR30P0a00");
        for (int k : new int[] {Integer.MIN_VALUE, -1, 0, 1, 29, 30, Integer.MAX_VALUE}) {
            Check.due("knot(0, " + k + ")", x.knot(0, k), NONE);
        }
    }

    private static void firstAndLastKnot() {
        AbsentCarpets x = Check.house("AR30R30R30P0a00P1a00P2a00");
        Check.dinners(x, 1, 7, 7);
        Check.dinners(x, 28, 7, 0);
        Check.dinners(x, 1, 7, 7);
        for (int room = 0; room < 3; room++) {
            Check.due("knot(" + room + ", -1)", x.knot(room, -1), NONE);
            Check.due("knot(" + room + ", 0)", x.knot(room, 0), 2 * room + 1);
            Check.due("knot(" + room + ", 1)", x.knot(room, 1), 2 * room);
            Check.due("knot(" + room + ", 28)", x.knot(room, 28), 2 * room);
            Check.due("knot(" + room + ", 29)", x.knot(room, 29), 2 * room + 1);
            Check.due("knot(" + room + ", 30)", x.knot(room, 30), NONE);
            x.moth(room);
            Check.due("knot(" + room + ", 29) that was eaten", x.knot(room, 29), NONE);
            Check.due("knot(" + room + ", 28) is the last now", x.knot(room, 28), 2 * room);
        }
    }

    private static void everyKnot() {
        AbsentCarpets x = Check.house("AR30" + FIVE);
        x.dinner(31, 0);
        x.dinner(31, 31);
        Check.carpetIs(x, 0, "0246813579", 0);
    }
}
