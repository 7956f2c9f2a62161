/** Counts what is not as due, and writes texts into objects. */
final class Check {
    private static int asked = 0;
    private static int wrong = 0;
    private static String sentence = "";

    private Check() {
    }

    static void due(String call, long got, long want) {
        asked++;
        if (got != want) {
            wrong++;
            System.out.println("  " + sentence + call + " answered " + got + ", due is " + want);
        }
    }

    static void holds(String what, boolean is) {
        due(what, is ? 1 : 0, 1);
    }

    /** A test of its own for one sentence of the document, under whose words a wrong answer is told. */
    static void sentence(String words, Runnable test) {
        int askedBefore = asked;
        sentence = "[" + words + "] ";
        test.run();
        holds("something was asked", asked > askedBefore);
        sentence = "";
    }

    /** Ends the test: exit code 1, if something was not as due. */
    static void end() {
        System.out.println("  " + asked + " answers, " + wrong + " wrong");
        if (wrong != 0 || asked == 0) {
            System.exit(1);
        }
    }

    /** Writes a text of bytes (characters 0 to 255) behind what is there, 8 at once. */
    static void tell(AbsentCarpets x, String text) {
        for (int at = 0; at < text.length(); at += 8) {
            String some = text.substring(at, Math.min(text.length(), at + 8));
            x.write(some.length(), packed(some));
        }
    }

    static long packed(String some) {
        long v = 0;
        for (int i = 0; i < some.length(); i++) {
            v = v << 8 | some.charAt(i) & 255;
        }
        return v;
    }

    /** A new object that is told this text, and lives nowhere else yet. */
    static AbsentCarpets told(String text) {
        AbsentCarpets x = new AbsentCarpets();
        tell(x, text);
        return x;
    }

    /** A new object that lives in this house. */
    static AbsentCarpets house(String text) {
        AbsentCarpets x = told(text);
        if (x.house() < 0) {
            due("house() of " + text, x.house(), 0);
        }
        return x;
    }

    static void dinners(AbsentCarpets x, int times, int away, int lie) {
        for (int i = 0; i < times; i++) {
            x.dinner(away, lie);
        }
    }

    /** The numbers just outside, and the least and the greatest there are. */
    static int[] beyond(int least, int most) {
        return new int[] {Integer.MIN_VALUE, least - 1, most + 1, Integer.MAX_VALUE};
    }

    /** The knots of a carpet from the first, each a digit, as knot() tells it. */
    static String carpet(AbsentCarpets x, int room) {
        StringBuilder knots = new StringBuilder();
        int many = x.room(room, 1);
        for (int k = 0; k < many; k++) {
            knots.append(x.knot(room, k));
        }
        return knots.toString();
    }

    static void carpetIs(AbsentCarpets x, int room, String knots, int steps) {
        String got = carpet(x, room);
        holds("carpet " + room + " is " + got + ", due is " + knots, got.equals(knots));
        due("steps on carpet " + room, x.room(room, 2), steps);
    }

    static void fringeIs(AbsentCarpets x, int room, int other, int due) {
        due("fringe(" + room + ", " + other + ")", x.fringe(room, other), due);
        due("fringe(" + other + ", " + room + ")", x.fringe(other, room), due);
    }

    /** Whom to invite, of each dinner the set; where it can not be, NONE alone. */
    static void planIs(AbsentCarpets x, int room, int n, int trouble, int... sets) {
        String call = "(" + room + ", " + n;
        due("invite" + call + ")", x.invite(room, n), trouble);
        for (int i = 0; i < n; i++) {
            int set = trouble == AbsentCarpets.NONE ? AbsentCarpets.NONE : sets[i];
            due("inviteAt" + call + ", " + i + ")", x.inviteAt(room, n, i), set);
        }
    }

    static void whoIs(AbsentCarpets x, int sets, int away, int came) {
        due("who(0)", x.who(0), sets);
        due("who(1)", x.who(1), away);
        due("who(2)", x.who(2), came);
    }

    static void luckIs(AbsentCarpets x, int room, int n, long above, long below) {
        due("luck(" + room + ", " + n + ", true)", x.luck(room, n, true), above);
        due("luck(" + room + ", " + n + ", false)", x.luck(room, n, false), below);
    }

    /** What is in the house and on its carpets, and what is told: to see that nothing changed. */
    static String looks(AbsentCarpets x) {
        StringBuilder all = new StringBuilder();
        for (int what = 0; what <= 8; what++) {
            all.append(x.count(what)).append(' ');
        }
        all.append(x.fault());
        int rooms = x.count(1);
        for (int room = 0; room < rooms; room++) {
            all.append(" R");
            for (int what = 0; what <= 5; what++) {
                all.append(x.room(room, what)).append(' ');
            }
            all.append(carpet(x, room));
        }
        int people = x.count(2);
        for (int person = 0; person < people; person++) {
            all.append(" P");
            for (int what = 0; what <= 4; what++) {
                all.append(x.person(person, what)).append(' ');
            }
            for (int other = 0; other < people; other++) {
                all.append(x.quarrel(person, other));
            }
        }
        for (int what = 0; what <= 2; what++) {
            all.append(" W").append(x.who(what));
        }
        long seed = x.seed(0);
        x.seed(seed);
        return all.append(" S").append(seed).toString();
    }

    /**
     * All that later calls can tell of an object. It undoes, goes on from what was kept and
     * moves into the text, so the object is of no use behind it.
     */
    static String portrait(AbsentCarpets x) {
        StringBuilder all = new StringBuilder(looks(x));
        int acts = x.count(6);
        for (int act = 0; act <= acts; act++) {
            all.append(" undo ").append(x.undo()).append(wear(x));
        }
        for (int slot = 0; slot <= 1; slot++) {
            all.append(" again ").append(x.again(slot)).append(wear(x));
        }
        all.append(" house ").append(x.house()).append(looks(x));
        for (int colour = 0; colour <= 3; colour++) {
            all.append(" see ").append(x.see(colour, 0));
        }
        return all.toString();
    }

    /** What an act changes and a slot keeps. */
    private static String wear(AbsentCarpets x) {
        StringBuilder all = new StringBuilder(" dinners " + x.count(3));
        int rooms = x.count(1);
        for (int room = 0; room < rooms; room++) {
            all.append(" steps ").append(x.room(room, 2)).append(' ').append(carpet(x, room));
        }
        return all.toString();
    }
}
