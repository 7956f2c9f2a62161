/** Promises 1 to 5, sentence by sentence: what is least, most, empty and full. Refusals: RefusalsTest. */
public final class TextEdgesTest {
    private static final int NONE = AbsentCarpets.NONE, UNKNOWN = AbsentCarpets.UNKNOWN;
    private static final int STATE = AbsentCarpets.STATE, FULL = AbsentCarpets.FULL, OUTSIDE = AbsentCarpets.OUTSIDE;
    /** 64 bytes: 2 rooms, 5 people and 8 of their 10 quarrels. */
    private static final String FULL_TEXT =
            "AR01R02P0a00P0a00P0a00P0a00P0a00Q011Q021Q031Q041Q121Q131Q141Q231";
    private static final String FIVE = "P0a00P0a00P0a00P0a00P0a00";

    public static void main(String[] args) {
        newObject();
        write();
        wipe();
        faultsAtTheLength();
        faultsOfParts();
        faultsOfPeople();
        faultsOfQuarrels();
        house();
        houseLeaves();
        Check.end();
    }

    // ---- promise 1

    private static void newObject() {
        Check.sentence("1: no rooms", TextEdgesTest::noRooms);
        Check.sentence("1: nobody", TextEdgesTest::nobody);
        Check.sentence("1: at first THE HOUSE is A", TextEdgesTest::atFirstTheHouseIsA);
        Check.sentence("1: no text, no act, nothing told, nothing kept", TextEdgesTest::nothingElse);
        Check.sentence("1: each object is one of its own", TextEdgesTest::twoObjects);
    }

    private static void noRooms() {
        AbsentCarpets x = new AbsentCarpets();
        Check.due("count(1)", x.count(1), 0);
        Check.due("rooms that are done", x.count(4), 0);
        Check.due("knots", x.count(5), 0);
        Check.due("room(0, 0)", x.room(0, 0), UNKNOWN);
        Check.due("knot(0, 0)", x.knot(0, 0), UNKNOWN);
        Check.due("moth(0)", x.moth(0), UNKNOWN);
        Check.due("mend(0)", x.mend(0), UNKNOWN);
        Check.due("price(0)", x.price(0), UNKNOWN);
        Check.due("fringe(0, 1)", x.fringe(0, 1), UNKNOWN);
        Check.due("fringe(0, 0)", x.fringe(0, 0), UNKNOWN);
        Check.due("invite(0, 1)", x.invite(0, 1), UNKNOWN);
        Check.due("inviteAt(0, 1, 0)", x.inviteAt(0, 1, 0), UNKNOWN);
        Check.due("luck(0, 0, true)", x.luck(0, 0, true), UNKNOWN);
        Check.due("luck(0, 0, false)", x.luck(0, 0, false), UNKNOWN);
        Check.due("season(0, 1)", x.season(0, 1), UNKNOWN);
    }

    private static void nobody() {
        AbsentCarpets x = new AbsentCarpets();
        Check.due("count(2)", x.count(2), 0);
        Check.due("count(8)", x.count(8), 0);
        Check.due("person(0, 0)", x.person(0, 0), UNKNOWN);
        Check.due("quarrel(0, 0)", x.quarrel(0, 0), UNKNOWN);
        Check.due("trouble(0)", x.trouble(0), 0);
        Check.due("trouble(1)", x.trouble(1), OUTSIDE);
        Check.due("dinner(1, 0)", x.dinner(1, 0), OUTSIDE);
        Check.due("dinner(0, 0)", x.dinner(0, 0), 0);
        Check.due("who(0)", x.who(0), 1);
        Check.due("who(1)", x.who(1), 0);
        Check.due("who(2)", x.who(2), 0);
    }

    /** A new object, and one that was told A and moved in, can't be told apart but by the text. */
    private static void atFirstTheHouseIsA() {
        AbsentCarpets x = Check.house("A");
        Check.due("wipe()", x.wipe(), 1);
        Check.holds("as the house A", Check.portrait(x).equals(Check.portrait(new AbsentCarpets())));
    }

    private static void nothingElse() {
        AbsentCarpets x = new AbsentCarpets();
        Check.due("bytes", x.count(0), 0);
        Check.due("fault()", x.fault(), 0);
        Check.due("house()", x.house(), STATE);
        Check.due("dinners", x.count(3), 0);
        Check.due("acts", x.count(6), 0);
        Check.due("undo()", x.undo(), STATE);
        Check.due("colours", x.count(7), 0);
        Check.due("unsee()", x.unsee(), 0);
        Check.due("see(0, 1)", x.see(0, 1), NONE);
        Check.due("seed(1)", x.seed(1), 0);
        Check.due("again(0)", x.again(0), STATE);
        Check.due("again(1)", x.again(1), STATE);
        Check.due("wipe()", x.wipe(), 0);
    }

    private static void twoObjects() {
        AbsentCarpets y = new AbsentCarpets();
        AbsentCarpets x = Check.house("AR02P0a05");
        x.dinner(1, 1);
        x.see(0, 1);
        x.seed(5);
        x.keep(0);
        Check.holds("the other one is new", Check.portrait(y).equals(Check.portrait(new AbsentCarpets())));
    }

    // ---- promise 2

    private static void write() {
        Check.sentence("2: n bytes (1 to 8)", TextEdgesTest::leastAndMostBytes);
        Check.sentence("2: of v the lowest n", TextEdgesTest::theLowestBytes);
        Check.sentence("2: the highest of these first", TextEdgesTest::theHighestFirst);
        Check.sentence("2: v is any long, a byte is 0 to 255", TextEdgesTest::anyLong);
        Check.sentence("2: come behind THE TEXT", TextEdgesTest::behindTheText);
        Check.sentence("2: 64 bytes at most", TextEdgesTest::justFull);
        Check.sentence("2: FULL: it would be longer than 64 (nothing comes)", TextEdgesTest::longerThanFull);
        Check.sentence("2: OUTSIDE comes ahead of FULL", TextEdgesTest::outsideAheadOfFull);
    }

    private static void leastAndMostBytes() {
        AbsentCarpets x = new AbsentCarpets();
        Check.due("write(1, 0)", x.write(1, 0), 1);
        Check.due("write(8, 0)", x.write(8, 0), 9);
        for (int n : new int[] {Integer.MIN_VALUE, -8, -1, 0, 9, 10, 64, Integer.MAX_VALUE}) {
            Check.due("write(" + n + ", 0)", x.write(n, 0), OUTSIDE);
        }
        Check.due("count(0)", x.count(0), 9);
    }

    /** Whatever stands above the lowest n bytes, they are the same text. */
    private static void theLowestBytes() {
        String text = "AR01R02";
        for (int n = 1; n < text.length(); n++) {
            long low = Check.packed(text.substring(0, n));
            for (long above : new long[] {0, -1, 0x4141414141414141L}) {
                AbsentCarpets x = new AbsentCarpets();
                x.write(n, above << 8 * n | low);
                Check.tell(x, text.substring(n));
                Check.due("house() of " + n + " bytes and the rest", x.house(), 20);
            }
        }
    }

    private static void theHighestFirst() {
        for (int n = 2; n <= 8; n++) {
            AbsentCarpets x = new AbsentCarpets();
            x.write(n, Check.packed("AR12R21P".substring(0, n)));
            Check.due("fault() of " + n + " bytes", x.fault(), n == 4 || n == 7 ? NONE : n);
            x.wipe();
            x.write(n, Check.packed("P12R21RA".substring(8 - n)));
            Check.due("fault() of " + n + " bytes that end with A", x.fault(), 0);
        }
    }

    private static void anyLong() {
        for (long v : new long[] {Long.MIN_VALUE, Long.MAX_VALUE, -1, 0}) {
            AbsentCarpets x = Check.told("A");
            Check.due("write(8, " + v + ")", x.write(8, v), 9);
            Check.due("fault() of it", x.fault(), 1);
        }
        for (int more : new int[] {128, 256, 1 << 16}) {
            AbsentCarpets x = new AbsentCarpets();
            x.write(1, 'A' + more);
            Check.due("fault() of " + ('A' + more), x.fault(), more >= 256 ? NONE : 0);
        }
        AbsentCarpets x = new AbsentCarpets();
        x.write(1, 'A' - 256L);
        Check.due("fault() of a byte of a number below 0", x.fault(), NONE);
    }

    private static void behindTheText() {
        AbsentCarpets x = new AbsentCarpets();
        String text = "AR30P0d99";
        for (int i = 0; i < text.length(); i++) {
            Check.due("write(1, " + text.charAt(i) + ")", x.write(1, text.charAt(i)), i + 1);
        }
        Check.due("house()", x.house(), 11);
    }

    private static void justFull() {
        for (int n = 1; n <= 8; n++) {
            AbsentCarpets x = Check.told(FULL_TEXT.substring(0, 64 - n));
            Check.due("write(" + n + ", v) behind " + (64 - n), x.write(n, Check.packed(FULL_TEXT.substring(64 - n))), 64);
            Check.due("house() of 64 bytes", x.house(), 25);
        }
    }

    private static void longerThanFull() {
        for (int n = 1; n <= 8; n++) {
            AbsentCarpets x = Check.told(FULL_TEXT.substring(0, 65 - n));
            Check.due("write(" + n + ", 0) behind " + (65 - n), x.write(n, 0), FULL);
            Check.due("count(0)", x.count(0), 65 - n);
            Check.tell(x, FULL_TEXT.substring(65 - n));
            Check.due("count(0) behind what fits", x.count(0), 64);
            Check.due("write(" + n + ", 0) behind 64", x.write(n, 0), FULL);
            Check.due("house() of what fits", x.house(), 25);
        }
    }

    private static void outsideAheadOfFull() {
        AbsentCarpets x = Check.told(FULL_TEXT);
        for (int n : new int[] {Integer.MIN_VALUE, -1, 0, 9, Integer.MAX_VALUE}) {
            Check.due("write(" + n + ", 0) behind 64", x.write(n, 0), OUTSIDE);
        }
    }

    // ---- promise 3

    private static void wipe() {
        Check.sentence("3: how long it was, of no text 0", TextEdgesTest::wipeOfNothing);
        Check.sentence("3: how long it was, of a full one 64", TextEdgesTest::wipeOfAFullText);
        Check.sentence("3: THE TEXT is empty", TextEdgesTest::wipeLeavesNoByte);
        Check.sentence("3: nothing but THE TEXT", TextEdgesTest::wipeLeavesTheRest);
    }

    private static void wipeOfNothing() {
        AbsentCarpets x = new AbsentCarpets();
        Check.due("wipe()", x.wipe(), 0);
        x.write(1, 'A');
        Check.due("wipe() of one byte", x.wipe(), 1);
        Check.due("wipe() once more", x.wipe(), 0);
    }

    private static void wipeOfAFullText() {
        AbsentCarpets x = Check.told(FULL_TEXT);
        Check.due("wipe()", x.wipe(), 64);
        Check.due("write(8, 0) behind it", x.write(8, 0), 8);
    }

    private static void wipeLeavesNoByte() {
        AbsentCarpets x = Check.told("AR0");
        x.wipe();
        Check.due("count(0)", x.count(0), 0);
        Check.due("fault()", x.fault(), 0);
        Check.due("house()", x.house(), STATE);
        x.write(1, '1');
        Check.due("fault() of what would have ended a part", x.fault(), 0);
        x.wipe();
        x.write(1, 'A');
        Check.due("house() of a shorter text", x.house(), 0);
    }

    private static void wipeLeavesTheRest() {
        AbsentCarpets x = RefusalsTest.livedIn();
        AbsentCarpets y = RefusalsTest.livedIn();
        x.wipe();
        Check.tell(x, RefusalsTest.NEXT_TEXT);
        Check.holds("all else is as it was", Check.portrait(x).equals(Check.portrait(y)));
    }

    // ---- promise 4

    /** To ask for it changes nothing, so it is asked for twice. */
    private static void fault(String text, int due) {
        AbsentCarpets x = Check.told(text);
        Check.due("fault() of " + text, x.fault(), due);
        Check.due("fault() of " + text + " once more", x.fault(), due);
        Check.due("count(0) behind it", x.count(0), text.length());
    }

    private static void faultsAtTheLength() {
        Check.sentence("4: its length, of an empty text", () -> fault("", 0));
        Check.sentence("4: its length, if it ends within a part", TextEdgesTest::everyHead);
        Check.sentence("4: its length set aside", TextEdgesTest::lengthSetAside);
        Check.sentence("4: whatever came behind it", TextEdgesTest::theFirstFault);
        Check.sentence("4: the first byte and the last one", TextEdgesTest::firstAndLastByte);
    }

    private static void everyHead() {
        String ends = " 1 4 7 12 17 22 27 32 36 40 44 48 52 56 60 64 ";
        for (int length = 0; length <= 64; length++) {
            fault(FULL_TEXT.substring(0, length), ends.contains(" " + length + " ") ? NONE : length);
        }
    }

    /** That a part has no place left is no fault of its bytes. */
    private static void lengthSetAside() {
        String most61 = "AR01" + FIVE + "Q011Q021Q031Q041Q121Q131Q141Q231";
        fault(most61, NONE);
        fault(most61 + "Q24", 64);
        fault(most61 + "Q34", 64);
        fault(most61 + "R99", 62);
        fault("AR01" + FIVE + "Q011Q021Q031Q041Q121Q131Q141" + "R02R03", NONE);
        fault("AR01" + FIVE + "Q011Q021Q031Q041Q121Q131Q141" + "R02R03Q", 64);
    }

    private static void theFirstFault() {
        fault("AX", 1);
        fault("AXR01", 1);
        fault("AXR99", 1);
        fault("AR99X", 2);
        fault("AR01P1X", 5);
        fault("BR99P", 0);
        AbsentCarpets x = Check.told("AR01P0e");
        for (String more : new String[] {"0", "0", "R02", "P0a00", "AAAA"}) {
            Check.tell(x, more);
            Check.due("fault() behind " + more, x.fault(), 6);
        }
    }

    private static void firstAndLastByte() {
        for (int b = 0; b < 256; b++) {
            fault(String.valueOf((char) b), b == 'A' ? NONE : 0);
            boolean quarrels = b >= '1' && b <= '9';
            fault(FULL_TEXT.substring(0, 63) + (char) b, quarrels ? NONE : 63);
        }
    }

    private static void faultsOfParts() {
        Check.sentence("4: A, then PARTS, none or more", TextEdgesTest::noneOrMoreParts);
        Check.sentence("4: a ROOM (3 at most)", TextEdgesTest::threeRooms);
        Check.sentence("4: whose CARPET needs ll KNOTS (01 to 30)", TextEdgesTest::neededKnots);
    }

    private static void noneOrMoreParts() {
        fault("A", NONE);
        fault("AA", 1);
        fault("AR01A", 4);
        fault("AR01P0a00A", 9);
        fault("AR01P0a00P0a00Q019A", 18);
        fault("R01", 0);
        fault("\0A", 0);
        fault("A\0", 1);
        for (String no : new String[] {"r", "p", "q", "S", "O", " ", "0", "\377"}) {
            fault("AR01P0a00P0a00" + no, 14);
        }
    }

    private static void threeRooms() {
        fault("AR01R02R03", NONE);
        fault("AR01R02R03R", 10);
        fault("AR01R02R03P2a00R04", 15);
        fault("AR01R02R03P2a00", NONE);
    }

    private static void neededKnots() {
        for (int tens = 0; tens <= 9; tens++) {
            for (int ones = 0; ones <= 9; ones++) {
                int needs = 10 * tens + ones;
                int due = tens > 3 ? 2 : needs < 1 || needs > 30 ? 3 : NONE;
                fault("AR" + tens + ones, due);
            }
        }
        for (String no : new String[] {"/", ":", "a", " ", "\0", "\260"}) {
            fault("AR" + no + "1", 2);
            fault("AR1" + no, 3);
        }
    }

    private static void faultsOfPeople() {
        Check.sentence("4: a PERSON (5 at most)", TextEdgesTest::fivePeople);
        Check.sentence("4: of ROOM r (told ahead)", TextEdgesTest::roomsToldAhead);
        Check.sentence("4: COLOUR c (a to d)", () -> digits("AR01P0", "abcd", "`eAD0\0\341", "00"));
        Check.sentence("4: GRUDGE g (0 to 9)", () -> digits("AR01P0a", "0123456789", "/:a \0\260", "0"));
        Check.sentence("4: t tenths (0 to 9)", () -> digits("AR01P0a0", "0123456789", "/:a \0\260", ""));
    }

    /** One byte behind this text may be each of these, and none of those; so that it can end, more comes. */
    private static void digits(String ahead, String may, String mayNot, String more) {
        for (int i = 0; i < may.length(); i++) {
            fault(ahead + may.charAt(i) + more, NONE);
        }
        for (int i = 0; i < mayNot.length(); i++) {
            fault(ahead + mayNot.charAt(i) + more, ahead.length());
        }
    }

    private static void fivePeople() {
        fault("AR01" + FIVE, NONE);
        fault("AR01" + FIVE + "P", 29);
        fault("AR01" + FIVE + "P0a00", 29);
        fault("AR01" + FIVE + "R02P1a00", 32);
        fault("AR01P0a00P0a00P0a00P0a00R02R03P2a00", NONE);
    }

    private static void roomsToldAhead() {
        fault("AP", 1);
        fault("AP0a00", 1);
        String rooms = "A";
        for (int told = 1; told <= 3; told++) {
            rooms += "R30";
            digits(rooms + "P", "012".substring(0, told), "0123456789".substring(told) + "/:\0\260", "a00");
        }
        fault("AR01P1a00R02", 5);
        fault("AR01R02P2a00R03", 8);
        fault("AR01P0a00R02P1a00R03P2a00", NONE);
    }

    private static void faultsOfQuarrels() {
        Check.sentence("4: PERSONS i and j are told ahead", TextEdgesTest::peopleToldAhead);
        Check.sentence("4: PERSONS i and j are unlike", TextEdgesTest::unlikePeople);
        Check.sentence("4: no two twice", TextEdgesTest::noTwoTwice);
        Check.sentence("4: no two twice, in whichever order", TextEdgesTest::inWhicheverOrder);
        Check.sentence("4: a part that can not end is a fault where it begins", TextEdgesTest::nobodyLeftToQuarrel);
        Check.sentence("4: a QUARREL of v (1 to 9)", () -> digits("AR01P0a00P0a00Q01", "123456789", "0/:a \0\261", ""));
    }

    private static void peopleToldAhead() {
        fault("AQ", 1);
        fault("AR01Q", 4);
        fault("AR01P0a00Q", 9);
        String people = "AR01P0a00";
        for (int told = 2; told <= 5; told++) {
            people += "P0a00";
            int last = told - 1;
            fault(people + "Q0" + last + "1", NONE);
            fault(people + "Q" + last + "01", NONE);
            digits(people + "Q", "", "0123456789".substring(told) + "/:\0\260", "01");
            digits(people + "Q0", "", "0123456789".substring(told) + "/:\0\260", "1");
        }
        fault("AR01P0a00P0a00Q021P0a00", 16);
        fault("AR01P0a00P0a00Q201P0a00", 15);
    }

    private static void unlikePeople() {
        for (int i = 0; i < 5; i++) {
            fault("AR01" + FIVE + "Q" + i + i + "1", 31);
        }
        fault("AR01P0a00P0a00Q00", 16);
        fault("AR01P0a00P0a00Q11", 16);
    }

    private static void noTwoTwice() {
        fault("AR01P0a00P0a00P0a00Q011Q01", 25);
        fault("AR01P0a00P0a00P0a00Q011Q011", 25);
        fault("AR01P0a00P0a00P0a00Q011Q021Q12", 30);
        fault("AR01P0a00P0a00P0a00Q211Q02", 26);
        fault("AR01P0a00P0a00P0a00Q011P0a00Q01", 30);
    }

    private static void inWhicheverOrder() {
        fault("AR01P0a00P0a00P0a00Q011Q10", 25);
        fault("AR01P0a00P0a00P0a00Q101Q01", 25);
        fault("AR01" + FIVE + "Q431Q34", 35);
        fault("AR01" + FIVE + "Q341Q43", 35);
        fault("AR01" + FIVE + "Q341Q351", 35);
        fault("AR01" + FIVE + "Q341Q331", 35);
    }

    /** Whoever has a quarrel with all the others can begin none, until somebody else is told. */
    private static void nobodyLeftToQuarrel() {
        fault("AR01P0a00P0a00Q011Q", 18);
        fault("AR01P0a00P0a00Q011R02Q", 21);
        fault("AR01P0a00P0a00Q011P0a00Q", 24);
        fault("AR01P0a00P0a00Q011P0a00Q0", 25);
        fault("AR01P0a00P0a00P0a00Q011Q021Q0", 28);
        fault("AR01P0a00P0a00P0a00Q011Q021Q1", 29);
        fault("AR01P0a00P0a00P0a00Q011Q021Q121Q", 31);
        fault("AR01P0a00P0a00P0a00Q011Q211Q1", 28);
        String four = "AR01P0a00P0a00P0a00P0a00Q011Q021Q031Q121Q131";
        fault(four + "Q231", NONE);
        fault(four + "Q231Q", 48);
        fault(four + "Q0", 45);
        fault(four + "Q1", 45);
        fault(four + "Q2", 46);
        fault(four + "Q30", 46);
        fault("AR01" + FIVE + "Q011Q021Q031Q041Q0", 46);
    }

    // ---- promise 5

    private static void house() {
        Check.sentence("5: 10 times ROOMS, and PEOPLE", TextEdgesTest::tenTimesRoomsAndPeople);
        Check.sentence("5: STATE: a FAULT", TextEdgesTest::noHouseOfAFault);
        Check.sentence("5: THE TEXT stays as it is", TextEdgesTest::theTextStays);
        Check.sentence("5: THE TEXT is THE HOUSE, the old one is gone", TextEdgesTest::theOldHouseIsGone);
        Check.sentence("5: of no room, nobody", TextEdgesTest::houseOfNothing);
    }

    private static void tenTimesRoomsAndPeople() {
        Check.due("house() of A", Check.told("A").house(), 0);
        Check.due("1 room", Check.told("AR01").house(), 10);
        Check.due("3 rooms, nobody", Check.told("AR01R02R03").house(), 30);
        Check.due("1 room, 5 people", Check.told("AR01" + FIVE).house(), 15);
        Check.due("3 rooms, 5 people", Check.told("AR01R02R03" + FIVE).house(), 35);
        Check.due("quarrels don't count", Check.told(FULL_TEXT).house(), 25);
    }

    private static void noHouseOfAFault() {
        for (String text : new String[] {"", "B", "AR", "AR0", "AR00", "AR31", "AP0a00", "AR01P0a0", "AR01Q",
            "AR01P0a00P0a00Q01", FULL_TEXT.substring(0, 63), FULL_TEXT.substring(0, 63) + "0"}) {
            Check.due("house() of " + text, Check.told(text).house(), STATE);
        }
    }

    private static void theTextStays() {
        AbsentCarpets x = Check.told("AR01R02P1a00");
        Check.due("house()", x.house(), 21);
        Check.due("count(0)", x.count(0), 12);
        Check.due("fault()", x.fault(), NONE);
        Check.due("house() of the same text", x.house(), 21);
        Check.due("write() behind it", x.write(3, Check.packed("R03")), 15);
        Check.due("the house is still the old one", x.count(1), 2);
        Check.due("house() of more", x.house(), 31);
    }

    private static void theOldHouseIsGone() {
        AbsentCarpets x = Check.house("AR09R09R09P2d99P1c88P2b77Q019Q128");
        x.wipe();
        Check.tell(x, "AR04P0a12P0b34");
        Check.due("house()", x.house(), 12);
        Check.holds("as if there had been no other",
                Check.portrait(x).equals(Check.portrait(Check.house("AR04P0a12P0b34"))));
    }

    private static void houseOfNothing() {
        AbsentCarpets x = Check.house("AR09P0a99P0b88Q019");
        x.dinner(1, 1);
        x.wipe();
        x.write(1, 'A');
        Check.due("house()", x.house(), 0);
        Check.holds("as at first", Check.portrait(x).equals(Check.portrait(Check.house("A"))));
    }

    private static void houseLeaves() {
        Check.sentence("5: no KNOTS", () -> Check.due("count(5)", movedIn().count(5), 0));
        Check.sentence("5: no STEPS", TextEdgesTest::noSteps);
        Check.sentence("5: no DINNERS", () -> Check.due("count(3)", movedIn().count(3), 0));
        Check.sentence("5: THE ROW of ACTS is empty", TextEdgesTest::noActs);
        Check.sentence("5: what was kept is gone", TextEdgesTest::nothingKept);
        Check.sentence("5: what was told of AN EVENING stays", TextEdgesTest::theEveningStays);
        Check.sentence("5: THE SEED stays", () -> Check.due("seed(0)", movedIn().seed(0), 77));
    }

    /** One that has lived through all there is, and has moved into the same house once more. */
    private static AbsentCarpets movedIn() {
        AbsentCarpets x = Check.house("AR09R09P0a00P1b00P0c00");
        x.dinner(5, 1);
        x.dinner(2, 2);
        x.keep(0);
        x.keep(1);
        x.see(0, 0);
        x.see(2, 4);
        x.seed(77);
        Check.due("house()", x.house(), 23);
        return x;
    }

    private static void noSteps() {
        AbsentCarpets x = movedIn();
        Check.due("room(0, 2)", x.room(0, 2), 0);
        Check.due("room(1, 2)", x.room(1, 2), 0);
        x.dinner(4, 0);
        Check.due("the first step is the first", x.room(1, 2), 1);
    }

    private static void noActs() {
        AbsentCarpets x = movedIn();
        Check.due("count(6)", x.count(6), 0);
        Check.due("undo()", x.undo(), STATE);
        Check.due("count(5)", x.count(5), 0);
    }

    private static void nothingKept() {
        AbsentCarpets x = movedIn();
        Check.due("again(0)", x.again(0), STATE);
        Check.due("again(1)", x.again(1), STATE);
        Check.due("count(5)", x.count(5), 0);
    }

    private static void theEveningStays() {
        AbsentCarpets x = movedIn();
        Check.due("count(7)", x.count(7), 2);
        Check.due("who(0): nobody of colour a, 4 of c", x.who(0), 0);
        Check.due("see(2, 1)", x.see(2, 1), 4);
        Check.due("who(0): nobody of colour a, 1 of c", x.who(0), 2);
        Check.due("see(1, 0)", x.see(1, 0), NONE);
    }
}
