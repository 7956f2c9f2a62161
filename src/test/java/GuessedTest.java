import java.math.BigInteger;

/** Promises 19 to 24: an evening, luck, and seasons by the seed. */
public final class GuessedTest {
    public static void main(String[] args) {
        see();
        unsee();
        who();
        whoOfASmallCarpet();
        whoRefused();
        luck();
        luckOfManyWays();
        luckRefused();
        seed();
        season();
        seasonRefused();
        Check.end();
    }

    private static void see() {
        AbsentCarpets x = new AbsentCarpets();
        for (int colour = 0; colour <= 3; colour++) {
            Check.due("see(" + colour + ", 5)", x.see(colour, 5), AbsentCarpets.NONE);
            Check.due("count(7)", x.count(7), colour + 1);
            Check.due("see(" + colour + ", 0)", x.see(colour, 0), 5);
        }
        Check.due("see(2, 4)", x.see(2, 4), 0);
        int[][] wrong = {{-1, 0}, {4, 0}, {0, -1}, {0, 6}, {4, 6}, {Integer.MIN_VALUE, 0},
            {0, Integer.MAX_VALUE}};
        for (int[] w : wrong) {
            Check.due("see(" + w[0] + ", " + w[1] + ")", x.see(w[0], w[1]), AbsentCarpets.OUTSIDE);
        }
        Check.due("what is refused changes nothing", x.see(0, 1), 0);
        Check.due("the last one counts", x.see(2, 1), 4);
        Check.due("count(7)", x.count(7), 4);
    }

    private static void unsee() {
        AbsentCarpets x = new AbsentCarpets();
        Check.due("unsee() of nothing", x.unsee(), 0);
        x.see(3, 0);
        x.see(1, 2);
        x.see(1, 3);
        Check.due("unsee()", x.unsee(), 2);
        Check.due("count(7)", x.count(7), 0);
        Check.due("who(0)", x.who(0), 1);
        for (int colour = 0; colour <= 3; colour++) {
            Check.due("see(" + colour + ", 1)", x.see(colour, 1), AbsentCarpets.NONE);
        }
        Check.due("unsee() of all", x.unsee(), 4);
        for (int colour = 0; colour <= 3; colour++) {
            Check.due("see(" + colour + ", 1)", x.see(colour, 1), AbsentCarpets.NONE);
        }
    }

    private static void who() {
        AbsentCarpets x = Check.house("AR09R09P0a00P1a00P0b00P1c00P0a00");
        Check.whoIs(x, 32, 0, 0);
        x.see(0, 2);
        Check.whoIs(x, 12, 0, 0);
        x.see(1, 1);
        Check.whoIs(x, 6, 4, 0);
        x.see(2, 0);
        Check.whoIs(x, 3, 4, 8);
        x.see(0, 3);
        Check.whoIs(x, 1, 23, 8);
        x.see(0, 0);
        Check.whoIs(x, 1, 4, 27);
        x.see(3, 0);
        Check.whoIs(x, 1, 4, 27);
        x.see(3, 1);
        Check.whoIs(x, 0, AbsentCarpets.NONE, AbsentCarpets.NONE);
        x.unsee();
        x.see(0, 4);
        Check.whoIs(x, 0, AbsentCarpets.NONE, AbsentCarpets.NONE);
        AbsentCarpets nobody = new AbsentCarpets();
        Check.whoIs(nobody, 1, 0, 0);
        nobody.see(0, 1);
        Check.whoIs(nobody, 0, AbsentCarpets.NONE, AbsentCarpets.NONE);
        AbsentCarpets first = Check.house("AR09P0a00P0b00");
        first.see(0, 1);
        first.see(1, 1);
        Check.whoIs(first, 1, 3, 0);
    }

    /** No carpet was done that evening, whatever the carpets are like now. */
    private static void whoOfASmallCarpet() {
        AbsentCarpets x = Check.house("AR01P0a00P0a00");
        x.see(0, 2);
        Check.whoIs(x, 1, 3, 0);
        x.dinner(3, 0);
        Check.whoIs(x, 1, 3, 0);
        x.wipe();
        Check.tell(x, "AR01P0b00P0a00P0a00");
        x.house();
        Check.whoIs(x, 2, 6, 0);
    }

    private static void whoRefused() {
        AbsentCarpets x = new AbsentCarpets();
        Check.due("who(-1)", x.who(-1), AbsentCarpets.OUTSIDE);
        Check.due("who(3)", x.who(3), AbsentCarpets.OUTSIDE);
        Check.due("who(MAX)", x.who(Integer.MAX_VALUE), AbsentCarpets.OUTSIDE);
    }

    private static void luck() {
        AbsentCarpets x = Check.house("AR02R01P0a05P0a04P1a09");
        Check.luckIs(x, 0, 0, 0, 1);
        Check.luckIs(x, 0, 1, 1, 5);
        Check.luckIs(x, 1, 1, 9, 10);
        Check.luckIs(x, 1, 2, 99, 100);
        // behind two dinners: 2 of 4 absences at least; a fourth step needs four that came
        luckReduced(x, 0, 2, 20 * 20 + 2 * 20 * 50 + 2 * 20 * 30 + 50 * 50, 10000);
        x.dinner(7, 0);
        Check.luckIs(x, 0, 0, 1, 1);
        Check.luckIs(x, 0, 1, 1, 1);
        Check.luckIs(x, 0, 2, 91, 100);
        x.dinner(0, 0);
        Check.luckIs(x, 0, 1, 7, 10);
        // who comes to three more dinners wears the knot away
        Check.luckIs(x, 1, 3, 999, 1000);
        AbsentCarpets sure = Check.house("AR01R01R01P0a00P2b90");
        Check.luckIs(sure, 0, 3, 0, 1);
        Check.luckIs(sure, 1, 3, 0, 1);
        Check.luckIs(sure, 2, 3, 0, 1);
    }

    private static void luckReduced(AbsentCarpets x, int room, int n, long above, long below) {
        long divisor = BigInteger.valueOf(above).gcd(BigInteger.valueOf(below)).longValue();
        Check.luckIs(x, room, n, above / divisor, below / divisor);
    }

    private static void luckOfManyWays() {
        AbsentCarpets all = Check.house("AR15P0a09P0a09P0a09P0a09P0a09");
        Check.luckIs(all, 0, 2, 0, 1);
        Check.luckIs(all, 0, 3, 205891132094649L, 1000000000000000L);
        AbsentCarpets full = Check.house("AR30P0a09");
        for (int i = 0; i < 30; i++) {
            full.dinner(1, 0);
        }
        Check.luckIs(full, 0, 3, 1, 1);
        full.dinner(0, 0);
        Check.luckIs(full, 0, 3, 999, 1000);
        AbsentCarpets some = Check.house("AR01P0a01P0a03P0a07P0a09P0a01");
        // with one away the four that come wear its knot away
        luckReduced(some, 0, 1, 100000 - 1701 - (189 + 729 + 3969 + 15309 + 189), 100000);
    }

    private static void luckRefused() {
        AbsentCarpets x = Check.house("AR02P0a05");
        for (int i = 0; i < 2; i++) {
            boolean upper = i == 0;
            Check.due("luck(1, 0)", x.luck(1, 0, upper), AbsentCarpets.UNKNOWN);
            Check.due("luck(-1, 4)", x.luck(-1, 4, upper), AbsentCarpets.UNKNOWN);
            Check.due("luck(0, 4)", x.luck(0, 4, upper), AbsentCarpets.OUTSIDE);
            Check.due("luck(0, -1)", x.luck(0, -1, upper), AbsentCarpets.OUTSIDE);
            Check.due("luck(0, MIN)", x.luck(0, Integer.MIN_VALUE, upper), AbsentCarpets.OUTSIDE);
        }
    }

    private static void seed() {
        AbsentCarpets x = new AbsentCarpets();
        Check.due("seed(MIN)", x.seed(Long.MIN_VALUE), 0);
        Check.due("seed(MAX)", x.seed(Long.MAX_VALUE), Long.MIN_VALUE);
        Check.due("seed(-1)", x.seed(-1), Long.MAX_VALUE);
        Check.due("seed(0)", x.seed(0), -1);
    }

    private static void season() {
        AbsentCarpets x = Check.house("AR30R02P0a05P1b07P0c02");
        for (int m = 1; m <= 30; m++) {
            for (long seed = -3; seed <= 3; seed++) {
                x = Check.house("AR30R02P0a05P1b07P0c02");
                x.dinner(5, 4);
                x.dinner(0, 0);
                String before = Check.looks(x);
                x.seed(seed);
                season(x, m, seed);
                x.seed(0);
                Check.holds("nothing changes but the seed", before.equals(Check.looks(x)));
            }
        }
    }

    /** The same again by whole dinners and by numbers that do not wrap. */
    private static void season(AbsentCarpets x, int m, long seed) {
        int first = x.season(0, m);
        x.seed(seed);
        int second = x.season(1, m);
        long behind = x.seed(0);
        BigInteger wrap = BigInteger.ONE.shiftLeft(64);
        BigInteger now = BigInteger.valueOf(seed).mod(wrap);
        x.keep(0);
        for (int i = 0; i < m; i++) {
            int away = 0;
            for (int person = 0; person < 3; person++) {
                now = now.multiply(new BigInteger("6364136223846793005"))
                        .add(new BigInteger("1442695040888963407")).mod(wrap);
                if (now.shiftRight(33).mod(BigInteger.TEN).intValue() < x.person(person, 3)) {
                    away |= 1 << person;
                }
            }
            x.dinner(away, 0);
        }
        Check.due("season(0, " + m + ") by " + seed, first, x.room(0, 1));
        Check.due("season(1, " + m + ") by " + seed, second, x.room(1, 1));
        Check.due("the seed behind it", behind, now.longValue());
        x.again(0);
        x.undo();
        // the acts of the house are gone by again(): make the same two once more
        x.house();
        x.dinner(5, 4);
        x.dinner(0, 0);
    }

    private static void seasonRefused() {
        AbsentCarpets x = Check.house("AR02P0a05");
        x.seed(5);
        Check.due("season(1, 1)", x.season(1, 1), AbsentCarpets.UNKNOWN);
        Check.due("season(-1, 0)", x.season(-1, 0), AbsentCarpets.UNKNOWN);
        Check.due("season(0, 0)", x.season(0, 0), AbsentCarpets.OUTSIDE);
        Check.due("season(0, 31)", x.season(0, 31), AbsentCarpets.OUTSIDE);
        Check.due("season(0, -1)", x.season(0, -1), AbsentCarpets.OUTSIDE);
        Check.due("season(0, MAX)", x.season(0, Integer.MAX_VALUE), AbsentCarpets.OUTSIDE);
        Check.due("the seed stays", x.seed(5), 5);
        Check.holds("season(0, 30)", x.season(0, 30) >= 0);
    }
}
