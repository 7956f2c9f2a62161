/** Promises 1 to 9: a new object, the text, the house and what is in it. */
public final class HouseTest {
    private static final String HOUSE = "AR03R12P0a31P1b05P0c97Q019Q124";

    public static void main(String[] args) {
        newObject();
        write();
        wipe();
        faultOfRooms();
        faultOfPeople();
        faultOfQuarrels();
        faultAtTheLength();
        faultOfEveryByte();
        house();
        houseStartsAnew();
        room();
        person();
        quarrel();
        knot();
        Check.end();
    }

    private static void newObject() {
        AbsentCarpets x = new AbsentCarpets();
        for (int what = 0; what <= 8; what++) {
            Check.due("new: count(" + what + ")", x.count(what), 0);
        }
        Check.due("new: room(0, 0)", x.room(0, 0), AbsentCarpets.UNKNOWN);
        Check.due("new: person(0, 0)", x.person(0, 0), AbsentCarpets.UNKNOWN);
        Check.due("new: undo()", x.undo(), AbsentCarpets.STATE);
        Check.due("new: unsee()", x.unsee(), 0);
        Check.due("new: seed(1)", x.seed(1), 0);
        Check.due("new: again(0)", x.again(0), AbsentCarpets.STATE);
        Check.due("new: again(1)", x.again(1), AbsentCarpets.STATE);
        Check.due("new: fault()", x.fault(), 0);
        Check.due("new: dinner(0, 0)", x.dinner(0, 0), 0);
        Check.due("new: count(3) behind a dinner", x.count(3), 1);
    }

    private static void write() {
        AbsentCarpets x = new AbsentCarpets();
        Check.due("write(0, v)", x.write(0, 65), AbsentCarpets.OUTSIDE);
        Check.due("write(9, v)", x.write(9, 65), AbsentCarpets.OUTSIDE);
        Check.due("write(-1, v)", x.write(-1, 65), AbsentCarpets.OUTSIDE);
        Check.due("write(MIN, v)", x.write(Integer.MIN_VALUE, 65), AbsentCarpets.OUTSIDE);
        Check.due("write(MAX, v)", x.write(Integer.MAX_VALUE, 65), AbsentCarpets.OUTSIDE);
        Check.due("count(0) behind refusals", x.count(0), 0);
        Check.due("the lowest byte alone", x.write(1, 0x7777777777777741L), 1);
        Check.due("fault() of A", x.fault(), AbsentCarpets.NONE);
        Check.due("the highest first", x.write(3, Check.packed("R07")), 4);
        Check.due("house() of AR07", x.house(), 10);
        Check.due("room(0, 0)", x.room(0, 0), 7);
        for (int length = 12; length <= 60; length += 8) {
            Check.due("write(8, -1)", x.write(8, -1L), length);
        }
        Check.due("write(5, v) behind 60", x.write(5, 0), AbsentCarpets.FULL);
        Check.due("count(0) behind FULL", x.count(0), 60);
        Check.due("write(0, v) behind 60", x.write(0, 0), AbsentCarpets.OUTSIDE);
        Check.due("write(9, v) behind 60", x.write(9, 0), AbsentCarpets.OUTSIDE);
        Check.due("write(4, v) behind 60", x.write(4, 0), 64);
        Check.due("write(1, v) behind 64", x.write(1, 0), AbsentCarpets.FULL);
        Check.due("wipe()", x.wipe(), 64);
        Check.due("write(8, v) behind wipe()", x.write(8, Check.packed("AR01R02P")), 8);
        Check.due("fault()", x.fault(), 8);
    }

    private static void wipe() {
        AbsentCarpets x = Check.house(HOUSE);
        x.dinner(1, 0);
        Check.due("wipe()", x.wipe(), HOUSE.length());
        Check.due("count(0)", x.count(0), 0);
        Check.due("fault() of nothing", x.fault(), 0);
        Check.due("the house stays: rooms", x.count(1), 2);
        Check.due("the house stays: knots", x.count(5), 1);
        Check.due("wipe() again", x.wipe(), 0);
    }

    private static void fault(String text, int want) {
        AbsentCarpets x = new AbsentCarpets();
        Check.tell(x, text);
        Check.due("fault() of " + text, x.fault(), want);
        Check.due("fault() of " + text + " again", x.fault(), want);
        Check.due("count(0) behind fault()", x.count(0), text.length());
    }

    private static void faultOfRooms() {
        int none = AbsentCarpets.NONE;
        fault("A", none);
        fault("B", 0);
        fault("a", 0);
        fault("AA", 1);
        fault("AX", 1);
        fault("A\u0000", 1);
        fault("A\u00d2" + "01", 1);
        fault("AR01", none);
        fault("AR09", none);
        fault("AR10", none);
        fault("AR30", none);
        fault("AR00", 3);
        fault("AR31", 3);
        fault("AR39", 3);
        fault("AR40", 2);
        fault("AR/1", 2);
        fault("AR:1", 2);
        fault("AR0/", 3);
        fault("AR1:", 3);
        fault("AR01R02R03", none);
        fault("AR01R02R03R04", 10);
        fault("AR01 ", 4);
    }

    private static void faultOfPeople() {
        int none = AbsentCarpets.NONE;
        fault("AP0a00", 1);
        fault("AR01P0a00", none);
        fault("AR01P0d99", none);
        fault("AR01P1a00", 5);
        fault("AR01R02P1a00", none);
        fault("AR01R02P2a00", 8);
        fault("AR01P0a00R01P1a00", none);
        fault("AR01P/a00", 5);
        fault("AR01P0e00", 6);
        fault("AR01P0`00", 6);
        fault("AR01P0A00", 6);
        fault("AR01P0a:0", 7);
        fault("AR01P0a/0", 7);
        fault("AR01P0a0:", 8);
        fault("AR01P0a0a", 8);
        fault("AR01P0a00P0a00P0a00P0a00P0a00", none);
        fault("AR01P0a00P0a00P0a00P0a00P0a00P0a00", 29);
        fault("AR01P0a00P0a00P0a00P0a00P0a00R02", none);
    }

    private static void faultOfQuarrels() {
        int none = AbsentCarpets.NONE;
        fault("AQ011", 1);
        fault("AR01P0a00Q001", 9);
        fault("AR01P0a00P0a00Q011", none);
        fault("AR01P0a00P0a00Q109", none);
        fault("AR01P0a00P0a00Q010", 17);
        fault("AR01P0a00P0a00Q01:", 17);
        fault("AR01P0a00P0a00Q001", 16);
        fault("AR01P0a00P0a00Q021", 16);
        fault("AR01P0a00P0a00Q201", 15);
        fault("AR01P0a00P0a00Q/", 15);
        fault("AR01P0a00P0a00Q011Q", 18);
        fault("AR01P0a00P0a00P0a00Q011Q10", 25);
        fault("AR01P0a00P0a00P0a00Q011Q01", 25);
        fault("AR01P0a00P0a00P0a00Q011Q02", 26);
        fault("AR01P0a00P0a00P0a00Q011Q021Q0", 28);
        fault("AR01P0a00P0a00P0a00Q011Q021Q1", 29);
        fault("AR01P0a00P0a00P0a00Q011Q021Q121", none);
        fault("AR01P0a00P0a00P0a00Q011Q021Q121Q", 31);
        fault("AR01P0a00P0a00Q011P0a00Q201Q211", none);
        fault("AR01P0a00P0a00Q011R02P1a00Q209", none);
    }

    private static void faultAtTheLength() {
        fault("", 0);
        fault("AR", 2);
        fault("AR0", 3);
        fault("AR3", 3);
        fault("AR01P", 5);
        fault("AR01P0", 6);
        fault("AR01P0a", 7);
        fault("AR01P0a0", 8);
        fault("AR01P0a00P0a00Q", 15);
        fault("AR01P0a00P0a00Q1", 16);
        fault("AR01P0a00P0a00Q10", 17);
        String full = "AR01R02R03P0a00P0a00P0a00P0a00P0a00Q011Q021Q031Q041Q121Q131Q14";
        fault(full, 62);
        fault(full + "9", AbsentCarpets.NONE);
        fault(full + "9Q", 64);
    }

    /** Where any byte may stand, just those that the text allows there are no fault. */
    private static void faultOfEveryByte() {
        everyByte("", "A");
        everyByte("A", "R");
        everyByte("AR", "0123");
        everyByte("AR0", "123456789");
        everyByte("AR2", "0123456789");
        everyByte("AR3", "0");
        everyByte("AR05", "RP");
        everyByte("AR05R06P", "01");
        everyByte("AR05R06P1", "abcd");
        everyByte("AR05R06P1c", "0123456789");
        everyByte("AR05R06P1c7", "0123456789");
        everyByte("AR05R06P1c78", "RP");
        everyByte("AR05R06P1c78P0a00", "RPQ");
        everyByte("AR05R06P1c78P0a00Q", "01");
        everyByte("AR05R06P1c78P0a00Q1", "0");
        everyByte("AR05R06P1c78P0a00Q10", "123456789");
        everyByte("AR05R06P1c78P0a00Q101", "RP");
    }

    private static void everyByte(String ahead, String allowed) {
        for (int b = 0; b < 256; b++) {
            AbsentCarpets x = new AbsentCarpets();
            Check.tell(x, ahead);
            x.write(1, b);
            boolean refused = x.fault() == ahead.length();
            Check.holds("byte " + b + " behind " + ahead, refused == allowed.indexOf((char) b) < 0);
        }
    }

    private static void house() {
        AbsentCarpets x = new AbsentCarpets();
        Check.due("house() of nothing", x.house(), AbsentCarpets.STATE);
        Check.tell(x, "A");
        Check.due("house() of A", x.house(), 0);
        Check.tell(x, "R01R02R03P0a00P1a00P2a00P0a00P1a00");
        Check.due("house() of 3 rooms, 5 people", x.house(), 35);
        Check.due("the text stays", x.count(0), 35);
        Check.tell(x, "Q");
        x.dinner(31, 1);
        String before = Check.looks(x);
        Check.due("house() of an open text", x.house(), AbsentCarpets.STATE);
        Check.tell(x, "00");
        Check.due("house() of a fault", x.house(), AbsentCarpets.STATE);
        x.wipe();
        Check.tell(x, "AR01R02R03P0a00P1a00P2a00P0a00P1a00Q");
        Check.holds("a refused house changes nothing", before.equals(Check.looks(x)));
        Check.due("an act is still there", x.undo(), 0);
        x.wipe();
        Check.tell(x, "AR30");
        Check.due("house() with fewer", x.house(), 10);
        Check.due("room(1, 0) is gone", x.room(1, 0), AbsentCarpets.UNKNOWN);
        Check.due("person(0, 0) is gone", x.person(0, 0), AbsentCarpets.UNKNOWN);
    }

    private static void houseStartsAnew() {
        AbsentCarpets x = Check.house(HOUSE);
        x.dinner(5, 1);
        x.keep(0);
        x.keep(1);
        x.see(2, 4);
        x.seed(77);
        Check.due("house() again", x.house(), 23);
        Check.due("no knots", x.count(5), 0);
        Check.due("no steps", x.room(1, 2), 0);
        Check.due("no dinners", x.count(3), 0);
        Check.due("no acts", x.count(6), 0);
        Check.due("undo()", x.undo(), AbsentCarpets.STATE);
        Check.due("again(0)", x.again(0), AbsentCarpets.STATE);
        Check.due("again(1)", x.again(1), AbsentCarpets.STATE);
        Check.due("what was told stays", x.see(2, 4), 4);
        Check.due("the seed stays", x.seed(0), 77);
        Check.due("quarrels are not told twice", x.count(8), 2);
        x.wipe();
        Check.tell(x, "AR01P0a00P0a00");
        Check.due("house() without quarrels", x.house(), 12);
        Check.due("old quarrels are gone", x.quarrel(0, 1), 0);
        Check.due("count(8)", x.count(8), 0);
    }

    private static void room() {
        AbsentCarpets x = Check.house(HOUSE);
        x.dinner(5, 1);
        x.dinner(1, 0);
        long[] first = {3, 3, 1, 1, 1, 5};
        long[] second = {12, 0, 2, 0, 0, 2};
        for (int what = 0; what <= 5; what++) {
            Check.due("room(0, " + what + ")", x.room(0, what), first[what]);
            Check.due("room(1, " + what + ")", x.room(1, what), second[what]);
        }
        Check.due("room(2, 0)", x.room(2, 0), AbsentCarpets.UNKNOWN);
        Check.due("room(-1, 0)", x.room(-1, 0), AbsentCarpets.UNKNOWN);
        Check.due("room(2, 6)", x.room(2, 6), AbsentCarpets.UNKNOWN);
        Check.due("room(MIN, 6)", x.room(Integer.MIN_VALUE, 6), AbsentCarpets.UNKNOWN);
        Check.due("room(0, 6)", x.room(0, 6), AbsentCarpets.OUTSIDE);
        Check.due("room(0, -1)", x.room(0, -1), AbsentCarpets.OUTSIDE);
        Check.due("room(1, MAX)", x.room(1, Integer.MAX_VALUE), AbsentCarpets.OUTSIDE);
    }

    private static void person() {
        AbsentCarpets x = Check.house(HOUSE);
        x.dinner(7, 4);
        x.dinner(2, 0);
        long[][] due = {{0, 0, 3, 1, 1}, {1, 1, 0, 5, 2}, {0, 2, 9, 7, 1}};
        for (int person = 0; person < 3; person++) {
            for (int what = 0; what <= 4; what++) {
                Check.due("person(" + person + ", " + what + ")", x.person(person, what), due[person][what]);
            }
        }
        Check.due("person(3, 0)", x.person(3, 0), AbsentCarpets.UNKNOWN);
        Check.due("person(-1, 5)", x.person(-1, 5), AbsentCarpets.UNKNOWN);
        Check.due("person(3, 5)", x.person(3, 5), AbsentCarpets.UNKNOWN);
        Check.due("person(0, 5)", x.person(0, 5), AbsentCarpets.OUTSIDE);
        Check.due("person(2, -1)", x.person(2, -1), AbsentCarpets.OUTSIDE);
        x.moth(0);
        Check.due("an eaten knot does not count", x.person(2, 4), 0);
    }

    private static void quarrel() {
        AbsentCarpets x = Check.house(HOUSE);
        long[][] due = {{0, 9, 0}, {9, 0, 4}, {0, 4, 0}};
        for (int i = 0; i < 3; i++) {
            for (int j = 0; j < 3; j++) {
                Check.due("quarrel(" + i + ", " + j + ")", x.quarrel(i, j), due[i][j]);
            }
        }
        Check.due("quarrel(3, 0)", x.quarrel(3, 0), AbsentCarpets.UNKNOWN);
        Check.due("quarrel(0, 3)", x.quarrel(0, 3), AbsentCarpets.UNKNOWN);
        Check.due("quarrel(-1, 0)", x.quarrel(-1, 0), AbsentCarpets.UNKNOWN);
        Check.due("quarrel(0, -1)", x.quarrel(0, -1), AbsentCarpets.UNKNOWN);
        Check.due("quarrel(MAX, MIN)", x.quarrel(Integer.MAX_VALUE, Integer.MIN_VALUE), AbsentCarpets.UNKNOWN);
    }

    private static void knot() {
        AbsentCarpets x = Check.house(HOUSE);
        Check.due("knot(0, 0) of none", x.knot(0, 0), AbsentCarpets.NONE);
        x.dinner(5, 4);
        Check.due("knot(0, 0)", x.knot(0, 0), 0);
        Check.due("knot(0, 1)", x.knot(0, 1), 5);
        Check.due("knot(0, 2)", x.knot(0, 2), AbsentCarpets.NONE);
        Check.due("knot(1, 0)", x.knot(1, 0), AbsentCarpets.NONE);
        Check.due("knot(0, -1)", x.knot(0, -1), AbsentCarpets.NONE);
        Check.due("knot(0, MAX)", x.knot(0, Integer.MAX_VALUE), AbsentCarpets.NONE);
        Check.due("knot(2, 0)", x.knot(2, 0), AbsentCarpets.UNKNOWN);
        Check.due("knot(-1, 0)", x.knot(-1, 0), AbsentCarpets.UNKNOWN);
        Check.due("knot(2, -1)", x.knot(2, -1), AbsentCarpets.UNKNOWN);
    }
}
