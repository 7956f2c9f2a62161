import java.util.function.Supplier;

/**
 * Promises 2 to 27: each refusal that a call names, of several the first, and that what is
 * refused changes nothing. All are tried in three situations: a new object, one that has
 * lived in a house for a while, and one whose house is full.
 */
public final class RefusalsTest {
    private static final int UNKNOWN = AbsentCarpets.UNKNOWN, OUTSIDE = AbsentCarpets.OUTSIDE;
    private static final int STATE = AbsentCarpets.STATE, FULL = AbsentCarpets.FULL;
    /** Numbers that any other argument may have, as told or not. */
    private static final int[] SOME = {Integer.MIN_VALUE, -1, 0, 1, 6, 31, Integer.MAX_VALUE};
    /** The text that livedIn() has been told, but has not moved into. */
    static final String NEXT_TEXT = "AR05P0d45";

    /** A call that is refused. */
    private interface Call {
        long on(AbsentCarpets x);
    }

    private final Supplier<AbsentCarpets> situation;
    private final int rooms;
    private final int people;

    private RefusalsTest(Supplier<AbsentCarpets> situation) {
        this.situation = situation;
        rooms = situation.get().count(1);
        people = situation.get().count(2);
    }

    public static void main(String[] args) {
        new RefusalsTest(AbsentCarpets::new).everyCall();
        new RefusalsTest(RefusalsTest::livedIn).everyCall();
        new RefusalsTest(RefusalsTest::fullHouse).everyCall();
        noPlaceForBytes();
        Check.sentence("5: STATE: a FAULT", RefusalsTest::noHouse);
        Check.sentence("11: STATE: there is no KNOT", RefusalsTest::nothingToEat);
        Check.sentence("12: STATE: there are none", RefusalsTest::nothingToMend);
        Check.sentence("13: STATE: there is none", RefusalsTest::nothingToUndo);
        Check.sentence("26: STATE: none were kept", RefusalsTest::nothingKept);
        Check.end();
    }

    // ---- situations

    /** Knots, steps, acts, a slot that is filled and one that is not, colours, a seed, another text. */
    static AbsentCarpets livedIn() {
        AbsentCarpets x = Check.house("AR04R02P0a31P1b05P0c97Q019Q124");
        x.wipe();
        Check.tell(x, NEXT_TEXT);
        x.dinner(7, 5);
        x.keep(0);
        x.dinner(2, 0);
        x.moth(1);
        x.see(0, 1);
        x.see(2, 0);
        x.seed(7);
        return x;
    }

    /** As many rooms and people as there can be, each carpet with steps; a text of 63 bytes. */
    private static AbsentCarpets fullHouse() {
        AbsentCarpets x = Check.house("AR30R01R30P0a99P1b88P2c77P0d66P2a00Q019Q348Q247Q136Q405Q324Q213");
        x.dinner(31, 17);
        x.dinner(7, 2);
        x.keep(1);
        x.dinner(24, 8);
        x.see(3, 5);
        x.seed(-1);
        return x;
    }

    private static AbsentCarpets untouched() {
        return Check.house("AR04R02R03P0a31P1b05");
    }

    // ---- how a refusal is tried

    private void refused(String call, Call c, int due) {
        refused(situation, call, c, due);
    }

    private static void refused(Supplier<AbsentCarpets> situation, String call, Call c, int due) {
        AbsentCarpets x = situation.get();
        Check.due(call, c.on(x), due);
        Check.due(call + " once more", c.on(x), due);
        Check.holds("nothing is changed by " + call, Check.portrait(x).equals(Check.portrait(situation.get())));
    }

    private int[] noRooms() {
        return Check.beyond(0, rooms - 1);
    }

    private int[] noPeople() {
        return Check.beyond(0, people - 1);
    }

    private int everyone() {
        return (1 << people) - 1;
    }

    private void everyCall() {
        Check.sentence("2: OUTSIDE", this::write);
        Check.sentence("6: UNKNOWN, ahead of OUTSIDE", this::roomUnknown);
        Check.sentence("7: UNKNOWN, ahead of OUTSIDE", this::personUnknown);
        Check.sentence("8: UNKNOWN: both", this::quarrel);
        Check.sentence("9: UNKNOWN", this::knot);
        Check.sentence("10: OUTSIDE: away (bits of PEOPLE)", this::dinnerAway);
        Check.sentence("10: OUTSIDE: lie (bits of those that are AWAY)", this::dinnerLie);
        Check.sentence("11: UNKNOWN, ahead of STATE", this::moth);
        Check.sentence("12: UNKNOWN, ahead of STATE", this::mend);
        Check.sentence("14: UNKNOWN", this::price);
        Check.sentence("15: UNKNOWN: both, ahead of OUTSIDE", this::fringe);
        Check.sentence("16: OUTSIDE: those (bits of PEOPLE)", this::trouble);
        Check.sentence("17: UNKNOWN, ahead of OUTSIDE", this::inviteUnknown);
        Check.sentence("18: UNKNOWN, ahead of OUTSIDE", this::inviteAtUnknown);
        Check.sentence("19: OUTSIDE: colour (0 to 3)", this::seeColour);
        Check.sentence("19: OUTSIDE: m (0 to 5)", this::seeMany);
        Check.sentence("21: OUTSIDE", this::who);
        Check.sentence("22: UNKNOWN, ahead of OUTSIDE, above and below", this::luckUnknown);
        Check.sentence("24: UNKNOWN, ahead of OUTSIDE", this::seasonUnknown);
        Check.sentence("25: UNKNOWN", this::keep);
        Check.sentence("26: UNKNOWN, ahead of STATE", this::again);
        Check.sentence("27: OUTSIDE", this::count);
        if (rooms > 0) {
            everyCallOfARoom();
        }
    }

    /** What can be refused only if the room or the person is there. */
    private void everyCallOfARoom() {
        Check.sentence("6: OUTSIDE", this::roomOutside);
        Check.sentence("7: OUTSIDE", this::personOutside);
        Check.sentence("15: OUTSIDE: both are one", this::fringeOfOne);
        Check.sentence("17: OUTSIDE: n (1 to 6)", this::inviteOutside);
        Check.sentence("18: OUTSIDE: n (1 to 6)", this::inviteAtOutside);
        Check.sentence("22: OUTSIDE: n (0 to 3), above and below", this::luckOutside);
        Check.sentence("24: OUTSIDE: m (1 to 30)", this::seasonOutside);
    }

    // ---- the house

    private void write() {
        for (int n : Check.beyond(1, 8)) {
            refused("write(" + n + ", 65)", x -> x.write(n, 65), OUTSIDE);
            refused("write(" + n + ", -1)", x -> x.write(n, -1), OUTSIDE);
        }
    }

    private static void noPlaceForBytes() {
        String text = "AR01R02P0a00P0a00P0a00P0a00P0a00Q011Q021Q031Q041Q121Q131Q141Q231";
        for (int n = 1; n <= 8; n++) {
            int many = n;
            for (int length : new int[] {65 - n, 64}) {
                Check.sentence("2: FULL: it would be longer than 64", () -> refused(
                        () -> Check.told(text.substring(0, length)),
                        "write(" + many + ", v) behind " + length, x -> x.write(many, 65), FULL));
            }
        }
        for (int n : Check.beyond(1, 8)) {
            Check.sentence("2: OUTSIDE comes ahead of FULL", () -> refused(() -> Check.told(text),
                    "write(" + n + ", v) behind 64", x -> x.write(n, 65), OUTSIDE));
        }
    }

    /** A house that is lived in stays, whatever the text that can be none. */
    private static void noHouse() {
        for (String text : new String[] {"", "B", "AR", "AR05P", "AR05P1", "AR05P0d45P0d45Q00", "AR05P0d45P0d45Q01"}) {
            refused(() -> livedInWith(text), "house() of " + text, x -> x.house(), STATE);
        }
    }

    private static AbsentCarpets livedInWith(String text) {
        AbsentCarpets x = livedIn();
        x.wipe();
        Check.tell(x, text);
        return x;
    }

    private void roomUnknown() {
        for (int room : noRooms()) {
            for (int what : SOME) {
                refused("room(" + room + ", " + what + ")", x -> x.room(room, what), UNKNOWN);
            }
        }
    }

    private void roomOutside() {
        for (int what : Check.beyond(0, 5)) {
            refused("room(0, " + what + ")", x -> x.room(0, what), OUTSIDE);
            refused("room(last, " + what + ")", x -> x.room(rooms - 1, what), OUTSIDE);
        }
    }

    private void personUnknown() {
        for (int person : noPeople()) {
            for (int what : SOME) {
                refused("person(" + person + ", " + what + ")", x -> x.person(person, what), UNKNOWN);
            }
        }
    }

    private void personOutside() {
        for (int what : Check.beyond(0, 4)) {
            refused("person(0, " + what + ")", x -> x.person(0, what), OUTSIDE);
            refused("person(last, " + what + ")", x -> x.person(people - 1, what), OUTSIDE);
        }
    }

    private void quarrel() {
        for (int person : noPeople()) {
            refused("quarrel(" + person + ", 0)", x -> x.quarrel(person, 0), UNKNOWN);
            refused("quarrel(0, " + person + ")", x -> x.quarrel(0, person), UNKNOWN);
            refused("quarrel(" + person + ", last)", x -> x.quarrel(person, people - 1), UNKNOWN);
            refused("quarrel(last, " + person + ")", x -> x.quarrel(people - 1, person), UNKNOWN);
            refused("quarrel(" + person + ", " + person + ")", x -> x.quarrel(person, person), UNKNOWN);
        }
    }

    private void knot() {
        for (int room : noRooms()) {
            for (int k : SOME) {
                refused("knot(" + room + ", " + k + ")", x -> x.knot(room, k), UNKNOWN);
            }
        }
    }

    // ---- acts

    private void dinnerAway() {
        for (int away : Check.beyond(0, everyone())) {
            for (int lie : new int[] {0, 1, away, -1}) {
                refused("dinner(" + away + ", " + lie + ")", x -> x.dinner(away, lie), OUTSIDE);
            }
        }
    }

    private void dinnerLie() {
        for (int away = 0; away <= everyone(); away++) {
            int those = away;
            for (int person = 0; person <= people; person++) {
                int lie = 1 << person;
                if ((away & lie) == 0) {
                    refused("dinner(" + away + ", " + lie + ")", x -> x.dinner(those, lie), OUTSIDE);
                    refused("dinner(" + away + ", " + (those | lie) + ")", x -> x.dinner(those, those | lie), OUTSIDE);
                }
            }
        }
        for (int lie : Check.beyond(0, everyone())) {
            refused("dinner(all, " + lie + ")", x -> x.dinner(everyone(), lie), OUTSIDE);
            refused("dinner(0, " + lie + ")", x -> x.dinner(0, lie), OUTSIDE);
        }
    }

    private void moth() {
        for (int room : noRooms()) {
            refused("moth(" + room + ")", x -> x.moth(room), UNKNOWN);
        }
    }

    private static void nothingToEat() {
        for (int room = 0; room <= 2; room++) {
            int nth = room;
            refused(RefusalsTest::untouched, "moth(" + room + ")", x -> x.moth(nth), STATE);
        }
        refused(RefusalsTest::eatenAndMended, "moth(1) of one that was eaten", x -> x.moth(1), STATE);
    }

    private void mend() {
        for (int room : noRooms()) {
            refused("mend(" + room + ")", x -> x.mend(room), UNKNOWN);
        }
    }

    private static void nothingToMend() {
        for (int room = 0; room <= 2; room++) {
            int nth = room;
            refused(RefusalsTest::untouched, "mend(" + room + ")", x -> x.mend(nth), STATE);
        }
        refused(RefusalsTest::eatenAndMended, "mend(0) of one that was mended", x -> x.mend(0), STATE);
    }

    /** Room 0 has a knot and no steps any more, room 1 no knot any more and a step. */
    private static AbsentCarpets eatenAndMended() {
        AbsentCarpets x = untouched();
        x.dinner(3, 2);
        x.dinner(0, 0);
        x.mend(0);
        x.moth(1);
        return x;
    }

    private static void nothingToUndo() {
        refused(AbsentCarpets::new, "undo() at first", x -> x.undo(), STATE);
        refused(RefusalsTest::untouched, "undo() of no act", x -> x.undo(), STATE);
        refused(RefusalsTest::goneOn, "undo() behind again()", x -> x.undo(), STATE);
        refused(RefusalsTest::undone, "undo() of no more", x -> x.undo(), STATE);
    }

    private static AbsentCarpets goneOn() {
        AbsentCarpets x = livedIn();
        x.again(0);
        return x;
    }

    private static AbsentCarpets undone() {
        AbsentCarpets x = livedIn();
        for (int act = x.count(6); act > 0; act--) {
            x.undo();
        }
        return x;
    }

    // ---- looked at

    private void price() {
        for (int room : noRooms()) {
            refused("price(" + room + ")", x -> x.price(room), UNKNOWN);
        }
    }

    private void fringe() {
        for (int room : noRooms()) {
            refused("fringe(" + room + ", 0)", x -> x.fringe(room, 0), UNKNOWN);
            refused("fringe(0, " + room + ")", x -> x.fringe(0, room), UNKNOWN);
            refused("fringe(" + room + ", last)", x -> x.fringe(room, rooms - 1), UNKNOWN);
            refused("fringe(last, " + room + ")", x -> x.fringe(rooms - 1, room), UNKNOWN);
            refused("fringe(" + room + ", " + room + ")", x -> x.fringe(room, room), UNKNOWN);
        }
    }

    private void fringeOfOne() {
        refused("fringe(0, 0)", x -> x.fringe(0, 0), OUTSIDE);
        refused("fringe(last, last)", x -> x.fringe(rooms - 1, rooms - 1), OUTSIDE);
    }

    private void trouble() {
        for (int those : Check.beyond(0, everyone())) {
            refused("trouble(" + those + ")", x -> x.trouble(those), OUTSIDE);
        }
    }

    private void inviteUnknown() {
        for (int room : noRooms()) {
            for (int n : SOME) {
                refused("invite(" + room + ", " + n + ")", x -> x.invite(room, n), UNKNOWN);
            }
        }
    }

    private void inviteOutside() {
        for (int n : Check.beyond(1, 6)) {
            refused("invite(0, " + n + ")", x -> x.invite(0, n), OUTSIDE);
            refused("invite(last, " + n + ")", x -> x.invite(rooms - 1, n), OUTSIDE);
        }
    }

    private void inviteAtUnknown() {
        for (int room : noRooms()) {
            for (int n : SOME) {
                refused("inviteAt(" + room + ", " + n + ", 0)", x -> x.inviteAt(room, n, 0), UNKNOWN);
                refused("inviteAt(" + room + ", " + n + ", -1)", x -> x.inviteAt(room, n, -1), UNKNOWN);
            }
        }
    }

    private void inviteAtOutside() {
        for (int n : Check.beyond(1, 6)) {
            for (int i : SOME) {
                refused("inviteAt(0, " + n + ", " + i + ")", x -> x.inviteAt(0, n, i), OUTSIDE);
                refused("inviteAt(last, " + n + ", " + i + ")", x -> x.inviteAt(rooms - 1, n, i), OUTSIDE);
            }
        }
    }

    // ---- guessed

    private void seeColour() {
        for (int colour : Check.beyond(0, 3)) {
            for (int m : new int[] {0, 5, 6, -1}) {
                refused("see(" + colour + ", " + m + ")", x -> x.see(colour, m), OUTSIDE);
            }
        }
    }

    /** Of a colour of which something was told, and of one of which nothing was. */
    private void seeMany() {
        for (int m : Check.beyond(0, 5)) {
            for (int colour = 0; colour <= 3; colour++) {
                int nth = colour;
                refused("see(" + colour + ", " + m + ")", x -> x.see(nth, m), OUTSIDE);
            }
        }
    }

    private void who() {
        for (int what : Check.beyond(0, 2)) {
            refused("who(" + what + ")", x -> x.who(what), OUTSIDE);
        }
    }

    private void luckUnknown() {
        for (int room : noRooms()) {
            for (int n : SOME) {
                refused("luck(" + room + ", " + n + ", true)", x -> x.luck(room, n, true), UNKNOWN);
                refused("luck(" + room + ", " + n + ", false)", x -> x.luck(room, n, false), UNKNOWN);
            }
        }
    }

    private void luckOutside() {
        for (int n : Check.beyond(0, 3)) {
            refused("luck(0, " + n + ", true)", x -> x.luck(0, n, true), OUTSIDE);
            refused("luck(0, " + n + ", false)", x -> x.luck(0, n, false), OUTSIDE);
            refused("luck(last, " + n + ", true)", x -> x.luck(rooms - 1, n, true), OUTSIDE);
            refused("luck(last, " + n + ", false)", x -> x.luck(rooms - 1, n, false), OUTSIDE);
        }
    }

    private void seasonUnknown() {
        for (int room : noRooms()) {
            for (int m : SOME) {
                refused("season(" + room + ", " + m + ")", x -> x.season(room, m), UNKNOWN);
            }
        }
    }

    private void seasonOutside() {
        for (int m : Check.beyond(1, 30)) {
            refused("season(0, " + m + ")", x -> x.season(0, m), OUTSIDE);
            refused("season(last, " + m + ")", x -> x.season(rooms - 1, m), OUTSIDE);
        }
    }

    // ---- slots

    private void keep() {
        for (int slot : Check.beyond(0, 1)) {
            refused("keep(" + slot + ")", x -> x.keep(slot), UNKNOWN);
        }
    }

    private void again() {
        for (int slot : Check.beyond(0, 1)) {
            refused("again(" + slot + ")", x -> x.again(slot), UNKNOWN);
        }
    }

    private static void nothingKept() {
        refused(AbsentCarpets::new, "again(0) at first", x -> x.again(0), STATE);
        refused(AbsentCarpets::new, "again(1) at first", x -> x.again(1), STATE);
        refused(RefusalsTest::livedIn, "again(1) if 0 alone was kept", x -> x.again(1), STATE);
        refused(RefusalsTest::fullHouse, "again(0) if 1 alone was kept", x -> x.again(0), STATE);
        refused(RefusalsTest::movedIn, "again(0) of another house", x -> x.again(0), STATE);
        refused(RefusalsTest::movedIn, "again(1) of another house", x -> x.again(1), STATE);
    }

    private static AbsentCarpets movedIn() {
        AbsentCarpets x = livedIn();
        x.keep(1);
        x.house();
        return x;
    }

    private void count() {
        for (int what : Check.beyond(0, 8)) {
            refused("count(" + what + ")", x -> x.count(what), OUTSIDE);
        }
    }
}
