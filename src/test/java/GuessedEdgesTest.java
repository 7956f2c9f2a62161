import java.math.BigInteger;

/** Promises 19 to 24, sentence by sentence: what is least, most, empty and full. Refusals: RefusalsTest. */
public final class GuessedEdgesTest {
    private static final int NONE = AbsentCarpets.NONE, OUTSIDE = AbsentCarpets.OUTSIDE, UNKNOWN = AbsentCarpets.UNKNOWN;
    private static final String FIVE = "P0a00P0a00P0a00P0a00P0a00";
    private static final long[] SEEDS = {0, 1, -1, 10, 77, Long.MAX_VALUE, Long.MIN_VALUE, 6364136223846793005L};

    public static void main(String[] args) {
        see();
        unsee();
        who();
        luck();
        luckTerms();
        seed();
        season();
        seasonChanges();
        Check.end();
    }

    // ---- promise 19

    private static void see() {
        Check.sentence("19: NONE: it was not", GuessedEdgesTest::seeAtFirst);
        Check.sentence("19: of COLOUR c (0 to 3) just m KNOTS (0 to 5)", GuessedEdgesTest::everyColourAndNumber);
        Check.sentence("19: of one told before the last one counts", GuessedEdgesTest::theLastOneCounts);
        Check.sentence("19: OUTSIDE: nothing is told", GuessedEdgesTest::outsideTellsNothing);
        Check.sentence("19: 0 KNOTS is something told", GuessedEdgesTest::noKnotsAreTold);
    }

    private static void seeAtFirst() {
        for (int colour = 0; colour <= 3; colour++) {
            Check.due("see(" + colour + ", 0)", new AbsentCarpets().see(colour, 0), NONE);
        }
    }

    private static void everyColourAndNumber() {
        AbsentCarpets x = new AbsentCarpets();
        for (int m = 0; m <= 5; m++) {
            for (int colour = 0; colour <= 3; colour++) {
                Check.due("see(" + colour + ", " + m + ")", x.see(colour, m), m == 0 ? NONE : m - 1);
            }
        }
        Check.due("count(7)", x.count(7), 4);
    }

    private static void theLastOneCounts() {
        AbsentCarpets x = Check.house("AR30P0a00P0a00P0b00");
        x.see(0, 2);
        x.see(0, 5);
        x.see(0, 1);
        Check.due("who(0)", x.who(0), 4);
        Check.due("count(7)", x.count(7), 1);
        Check.due("see(0, 1)", x.see(0, 1), 1);
    }

    private static void outsideTellsNothing() {
        AbsentCarpets x = new AbsentCarpets();
        int[][] wrong = {{0, 6}, {0, -1}, {3, 6}, {4, 0}, {-1, 0}, {4, 6}, {-1, -1}};
        for (int[] w : wrong) {
            Check.due("see(" + w[0] + ", " + w[1] + ")", x.see(w[0], w[1]), OUTSIDE);
        }
        Check.due("count(7)", x.count(7), 0);
        Check.due("see(0, 0)", x.see(0, 0), NONE);
        Check.due("see(3, 0)", x.see(3, 0), NONE);
    }

    private static void noKnotsAreTold() {
        AbsentCarpets x = Check.house("AR30P0d00P0a00");
        x.see(3, 0);
        Check.due("count(7)", x.count(7), 1);
        Check.due("who(2)", x.who(2), 1);
        Check.due("see(3, 2)", x.see(3, 2), 0);
        Check.due("who(0)", x.who(0), 0);
    }

    // ---- promise 20

    private static void unsee() {
        Check.sentence("20: of how many COLOURS something was, 0 to 4", GuessedEdgesTest::howManyColours);
        Check.sentence("20: nothing is told of it", GuessedEdgesTest::nothingIsTold);
    }

    private static void howManyColours() {
        AbsentCarpets x = new AbsentCarpets();
        Check.due("unsee() of nothing", x.unsee(), 0);
        for (int told = 1; told <= 4; told++) {
            for (int colour = 0; colour < told; colour++) {
                x.see(colour, 0);
                x.see(colour, 5);
            }
            Check.due("unsee() of " + told, x.unsee(), told);
            Check.due("unsee() once more", x.unsee(), 0);
        }
        x.see(3, 0);
        Check.due("unsee() of the last colour", x.unsee(), 1);
    }

    private static void nothingIsTold() {
        AbsentCarpets x = Check.house("AR30P0a00P0b00P0c00P0d00");
        for (int colour = 0; colour <= 3; colour++) {
            x.see(colour, 2);
        }
        Check.due("who(0) of what can not be", x.who(0), 0);
        x.unsee();
        Check.due("count(7)", x.count(7), 0);
        Check.due("who(0)", x.who(0), 16);
        for (int colour = 0; colour <= 3; colour++) {
            Check.due("see(" + colour + ", 1)", x.see(colour, 1), NONE);
        }
    }

    // ---- promise 21

    private static void who() {
        Check.sentence("21: nothing told, nobody to five", GuessedEdgesTest::whoOfNothingTold);
        Check.sentence("21: how many sets fit, none to all of a COLOUR", GuessedEdgesTest::whoOfOneColour);
        Check.sentence("21: NONE (of 1, 2): there is no set", GuessedEdgesTest::whoOfNoSet);
        Check.sentence("21: of a COLOUR of nobody", GuessedEdgesTest::whoOfNobodysColour);
        Check.sentence("21: who surely was AWAY, who surely came (bits)", GuessedEdgesTest::whoSurely);
        Check.sentence("21: no CARPET was DONE, whatever it is like now", GuessedEdgesTest::whoOfDoneCarpets);
        Check.sentence("21: OUTSIDE", GuessedEdgesTest::whoOutside);
    }

    private static void whoOfNothingTold() {
        String text = "AR01";
        for (int people = 0; people <= 5; people++) {
            Check.whoIs(Check.house(text), 1 << people, 0, 0);
            text += "P0a00";
        }
    }

    private static void whoOfOneColour() {
        int[] sets = {1, 5, 10, 10, 5, 1};
        AbsentCarpets x = Check.house("AR30" + FIVE);
        for (int m = 0; m <= 5; m++) {
            x.see(0, m);
            Check.whoIs(x, sets[m], m == 5 ? 31 : 0, m == 0 ? 31 : 0);
        }
    }

    private static void whoOfNoSet() {
        AbsentCarpets x = Check.house("AR30P0a00P0a00P0b00");
        x.see(0, 3);
        Check.whoIs(x, 0, NONE, NONE);
        x.see(0, 2);
        Check.whoIs(x, 2, 3, 0);
        x.see(1, 2);
        Check.whoIs(x, 0, NONE, NONE);
        AbsentCarpets nobody = new AbsentCarpets();
        nobody.see(3, 1);
        Check.whoIs(nobody, 0, NONE, NONE);
        nobody.see(3, 0);
        Check.whoIs(nobody, 1, 0, 0);
    }

    private static void whoOfNobodysColour() {
        AbsentCarpets x = Check.house("AR30P0a00P0b00");
        for (int colour = 2; colour <= 3; colour++) {
            x.see(colour, 0);
            Check.whoIs(x, 4, 0, 0);
            x.see(colour, 1);
            Check.whoIs(x, 0, NONE, NONE);
            x.unsee();
        }
    }

    private static void whoSurely() {
        AbsentCarpets x = Check.house("AR30R30R30P0d00P1c00P2b00P0a00P1d00");
        x.see(0, 1);
        Check.whoIs(x, 16, 8, 0);
        x.see(1, 0);
        Check.whoIs(x, 8, 8, 4);
        x.see(3, 2);
        Check.whoIs(x, 2, 25, 4);
        x.see(3, 1);
        Check.whoIs(x, 4, 8, 4);
        x.see(2, 1);
        Check.whoIs(x, 2, 10, 4);
        x.see(3, 0);
        Check.whoIs(x, 1, 10, 21);
    }

    private static void whoOfDoneCarpets() {
        AbsentCarpets x = Check.house("AR01" + FIVE);
        x.see(0, 5);
        Check.whoIs(x, 1, 31, 0);
        x.dinner(31, 0);
        Check.due("room(0, 3)", x.room(0, 3), 1);
        Check.whoIs(x, 1, 31, 0);
    }

    private static void whoOutside() {
        AbsentCarpets x = Check.house("AR30P0a00");
        for (int what : Check.beyond(0, 2)) {
            Check.due("who(" + what + ")", x.who(what), OUTSIDE);
        }
        x.see(0, 2);
        Check.due("who(3) of no set", x.who(3), OUTSIDE);
        Check.due("who(-1) of no set", x.who(-1), OUTSIDE);
    }

    // ---- promise 22

    private static void luck() {
        Check.sentence("22: n DINNERS (0 to 3): none", GuessedEdgesTest::luckOfNoDinner);
        Check.sentence("22: n DINNERS (0 to 3): one to three", GuessedEdgesTest::luckOfThreeDinners);
        Check.sentence("22: n DINNERS, just outside", GuessedEdgesTest::luckOutside);
        Check.sentence("22: each stays away by its tenths (0 to 9)", GuessedEdgesTest::luckOfEveryTenths);
        Check.sentence("22: each by itself", GuessedEdgesTest::luckOfEachByItself);
        Check.sentence("22: from now on, with its KNOTS and its STEPS", GuessedEdgesTest::luckFromNowOn);
        Check.sentence("22: DONE behind them, not ahead alone", GuessedEdgesTest::luckOfWornOnes);
        Check.sentence("22: to reckon changes nothing", GuessedEdgesTest::luckChangesNothing);
    }

    private static void luckOfNoDinner() {
        AbsentCarpets x = Check.house("AR02P0a09");
        Check.luckIs(x, 0, 0, 0, 1);
        x.dinner(1, 0);
        Check.luckIs(x, 0, 0, 0, 1);
        x.dinner(1, 0);
        Check.luckIs(x, 0, 0, 1, 1);
        Check.dinners(x, 3, 0, 0);
        Check.luckIs(x, 0, 0, 1, 1);
        x.dinner(0, 0);
        Check.luckIs(x, 0, 0, 0, 1);
    }

    private static void luckOfThreeDinners() {
        AbsentCarpets x = Check.house("AR01R02R03P0a07P1a07P2a07");
        Check.luckIs(x, 0, 1, 7, 10);
        Check.luckIs(x, 0, 2, 91, 100);
        Check.luckIs(x, 0, 3, 973, 1000);
        Check.luckIs(x, 1, 1, 0, 1);
        Check.luckIs(x, 1, 2, 49, 100);
        Check.luckIs(x, 1, 3, 98, 125);
        Check.luckIs(x, 2, 2, 0, 1);
        Check.luckIs(x, 2, 3, 343, 1000);
    }

    private static void luckOutside() {
        AbsentCarpets x = Check.house("AR01P0a09");
        for (int n : Check.beyond(0, 3)) {
            Check.luckIs(x, 0, n, OUTSIDE, OUTSIDE);
            Check.luckIs(x, 1, n, UNKNOWN, UNKNOWN);
        }
        Check.luckIs(x, 1, 0, UNKNOWN, UNKNOWN);
    }

    private static void luckOfEveryTenths() {
        int[][] due = {{0, 1}, {1, 10}, {1, 5}, {3, 10}, {2, 5}, {1, 2}, {3, 5}, {7, 10}, {4, 5}, {9, 10}};
        for (int tenths = 0; tenths <= 9; tenths++) {
            Check.luckIs(Check.house("AR01P0a9" + tenths), 0, 1, due[tenths][0], due[tenths][1]);
        }
    }

    private static void luckOfEachByItself() {
        Check.luckIs(Check.house("AR02P0a03P0a07"), 0, 1, 21, 100);
        Check.luckIs(Check.house("AR01P0a03P0a07"), 0, 1, 79, 100);
        Check.luckIs(Check.house("AR01R01P1a03P0a07P1a09"), 0, 1, 7, 10);
        Check.luckIs(Check.house("AR05P0a01P0a03P0a07P0a09P0a03"), 0, 1, 567, 100000);
    }

    private static void luckFromNowOn() {
        AbsentCarpets x = Check.house("AR02P0a03");
        Check.luckIs(x, 0, 1, 0, 1);
        x.dinner(1, 1);
        Check.luckIs(x, 0, 1, 3, 10);
        x.dinner(1, 0);
        Check.luckIs(x, 0, 1, 1, 1);
        Check.dinners(x, 3, 0, 0);
        Check.luckIs(x, 0, 1, 3, 10);
        Check.luckIs(x, 0, 2, 3, 10);
        x.mend(0);
        Check.luckIs(x, 0, 1, 1, 1);
        Check.luckIs(x, 0, 3, 1, 1);
        x.moth(0);
        Check.luckIs(x, 0, 1, 3, 10);
    }

    /** Four that surely come wear what is done: its chance sinks from 1 to 0. */
    private static void luckOfWornOnes() {
        AbsentCarpets x = Check.house("AR01P0a00P0a00P0a00P0a00");
        x.dinner(1, 0);
        Check.luckIs(x, 0, 0, 1, 1);
        Check.luckIs(x, 0, 1, 0, 1);
        x.mend(0);
        Check.luckIs(x, 0, 1, 0, 1);
        AbsentCarpets y = Check.house("AR01P0a01");
        y.dinner(1, 0);
        Check.dinners(y, 1, 0, 0);
        Check.luckIs(y, 0, 2, 1, 1);
        Check.luckIs(y, 0, 3, 1000 - 729, 1000);
    }

    private static void luckChangesNothing() {
        AbsentCarpets x = RefusalsTest.livedIn();
        for (int n = 0; n <= 3; n++) {
            x.luck(0, n, true);
            x.luck(1, n, false);
        }
        Check.holds("all is as it was", Check.portrait(x).equals(Check.portrait(RefusalsTest.livedIn())));
    }

    private static void luckTerms() {
        Check.sentence("22: in least terms, 0 is 0 of 1", GuessedEdgesTest::luckOfNothing);
        Check.sentence("22: in least terms, what is sure is 1 of 1", GuessedEdgesTest::luckOfTheSure);
        Check.sentence("22: in least terms", GuessedEdgesTest::luckInLeastTerms);
        Check.sentence("22: the greatest number below, five people at three DINNERS", GuessedEdgesTest::luckOfManyWays);
    }

    private static void luckOfNothing() {
        AbsentCarpets x = Check.house("AR30R01P0a09P0a09P0a09P0a09P0a09");
        for (int n = 0; n <= 3; n++) {
            Check.luckIs(x, 0, n, 0, 1);
            Check.luckIs(x, 1, n, 0, 1);
        }
    }

    private static void luckOfTheSure() {
        AbsentCarpets x = Check.house("AR01P0a03");
        x.dinner(1, 0);
        for (int n = 0; n <= 3; n++) {
            Check.luckIs(x, 0, n, 1, 1);
        }
        AbsentCarpets two = Check.house("AR01P0a03P0a07");
        two.dinner(3, 0);
        Check.luckIs(two, 0, 1, 1, 1);
        // but for both that come twice
        Check.luckIs(two, 0, 2, 10000 - 21 * 21, 10000);
    }

    private static void luckInLeastTerms() {
        Check.luckIs(Check.house("AR02P0a05"), 0, 2, 1, 4);
        Check.luckIs(Check.house("AR02P0a05"), 0, 3, 1, 2);
        Check.luckIs(Check.house("AR03P0a05"), 0, 3, 1, 8);
        Check.luckIs(Check.house("AR01P0a05"), 0, 3, 7, 8);
        Check.luckIs(Check.house("AR03P0a02"), 0, 3, 1, 125);
        Check.luckIs(Check.house("AR02P0a06P0a05"), 0, 1, 3, 10);
    }

    private static void luckOfManyWays() {
        AbsentCarpets x = Check.house("AR15P0a01P0a01P0a01P0a01P0a01");
        Check.luckIs(x, 0, 3, 1, 1000000000000000L);
        AbsentCarpets even = Check.house("AR15P0a05P0a05P0a05P0a05P0a05");
        Check.luckIs(even, 0, 3, 1, 32768);
        AbsentCarpets nine = Check.house("AR15P0a09P0a09P0a09P0a09P0a09");
        Check.luckIs(nine, 0, 3, 205891132094649L, 1000000000000000L);
    }

    // ---- promise 23

    private static void seed() {
        Check.sentence("23: 0 at first", () -> Check.due("seed(7)", new AbsentCarpets().seed(7), 0));
        Check.sentence("23: THE SEED, a long, is v: what it was", GuessedEdgesTest::anySeed);
    }

    private static void anySeed() {
        AbsentCarpets x = new AbsentCarpets();
        long before = 0;
        for (long v : new long[] {Long.MIN_VALUE, Long.MAX_VALUE, -1, 1L << 32, 1, 0}) {
            Check.due("seed(" + v + ")", x.seed(v), before);
            before = v;
        }
        Check.due("seed(0)", x.seed(0), 0);
    }

    // ---- promise 24

    /** THE SEED behind so many draws, by numbers that do not wrap by themselves. */
    private static BigInteger drawn(long seed, int times) {
        BigInteger wrap = BigInteger.ONE.shiftLeft(64);
        BigInteger x = BigInteger.valueOf(seed).mod(wrap);
        for (int i = 0; i < times; i++) {
            x = x.multiply(new BigInteger("6364136223846793005")).add(new BigInteger("1442695040888963407")).mod(wrap);
        }
        return x;
    }

    /** What is left by 10 of the upper 31 bits. */
    private static int left(BigInteger x) {
        return x.shiftRight(33).mod(BigInteger.TEN).intValue();
    }

    private static void season() {
        Check.sentence("24: m DINNERS (1 to 30)", GuessedEdgesTest::leastAndMostSeason);
        Check.sentence("24: m DINNERS, just outside", GuessedEdgesTest::seasonOutside);
        Check.sentence("24: x becomes x times .. and .. (64 bits, wrapping)", GuessedEdgesTest::seedBehindASeason);
        Check.sentence("24: what is left is less than its tenths (0 to 9)", GuessedEdgesTest::lessThanItsTenths);
        Check.sentence("24: of its upper 31 bits, none of them a sign", GuessedEdgesTest::upperBits);
        Check.sentence("24: for each PERSON, by number, of other ROOMS too", GuessedEdgesTest::eachByNumber);
        Check.sentence("24: of nobody", GuessedEdgesTest::seasonOfNobody);
    }

    private static void leastAndMostSeason() {
        for (int m = 1; m <= 30; m++) {
            AbsentCarpets x = Check.house("AR30P0a00");
            x.seed(5);
            Check.due("season(0, " + m + ")", x.season(0, m), 0);
            Check.due("the seed behind " + m, x.seed(0), drawn(5, m).longValue());
        }
    }

    private static void seasonOutside() {
        AbsentCarpets x = Check.house("AR30P0a05");
        x.seed(5);
        for (int m : Check.beyond(1, 30)) {
            Check.due("season(0, " + m + ")", x.season(0, m), OUTSIDE);
            Check.due("season(1, " + m + ")", x.season(1, m), UNKNOWN);
        }
        Check.due("season(1, 1)", x.season(1, 1), UNKNOWN);
        Check.due("the seed", x.seed(0), 5);
    }

    private static void seedBehindASeason() {
        for (long seed : SEEDS) {
            for (int m : new int[] {1, 2, 30}) {
                AbsentCarpets x = Check.house("AR30R30R30" + FIVE);
                x.seed(seed);
                x.season(2, m);
                Check.due("the seed behind " + m + " of " + seed, x.seed(0), drawn(seed, 5 * m).longValue());
            }
        }
    }

    /** As many tenths as are left is not away, one more is. */
    private static void lessThanItsTenths() {
        for (int tenths = 0; tenths <= 9; tenths++) {
            AbsentCarpets x = Check.house("AR30P0a0" + tenths);
            for (long seed = 0; seed < 60; seed++) {
                x.seed(seed);
                int due = left(drawn(seed, 1)) < tenths ? 1 : 0;
                Check.due("season(0, 1) of " + tenths + " by " + seed, x.season(0, 1), due);
            }
        }
    }

    /** Of seeds whose first bit is set behind the draw, and of those where it is not. */
    private static void upperBits() {
        AbsentCarpets x = Check.house("AR30P0a05");
        int signs = 0;
        for (long seed : SEEDS) {
            BigInteger behind = drawn(seed, 1);
            signs += behind.testBit(63) ? 1 : 0;
            x.seed(seed);
            Check.due("season(0, 1) by " + seed, x.season(0, 1), left(behind) < 5 ? 1 : 0);
        }
        Check.holds("both kinds are there", signs > 0 && signs < SEEDS.length);
    }

    private static void eachByNumber() {
        for (long seed : SEEDS) {
            for (int first = 0; first < 5; first++) {
                StringBuilder text = new StringBuilder("AR30R30");
                for (int person = 0; person < 5; person++) {
                    text.append(person == first ? "P1a05" : "P0a09");
                }
                AbsentCarpets x = Check.house(text.toString());
                x.seed(seed);
                int due = left(drawn(seed, first + 1)) < 5 ? 1 : 0;
                Check.due("season(1, 1) of person " + first + " by " + seed, x.season(1, 1), due);
            }
        }
    }

    private static void seasonOfNobody() {
        AbsentCarpets x = Check.house("AR30R30");
        x.seed(9);
        Check.due("season(1, 30)", x.season(1, 30), 0);
        Check.due("the seed", x.seed(0), 9);
    }

    private static void seasonChanges() {
        Check.sentence("24: how many KNOTS it has then, DONE and worn ones", GuessedEdgesTest::seasonAsPlayed);
        Check.sentence("24: from now on, with its KNOTS and its STEPS", GuessedEdgesTest::seasonFromNowOn);
        Check.sentence("24: (nothing changes but THE SEED.)", GuessedEdgesTest::seasonChangesNothing);
        Check.sentence("24: the next one goes on from THE SEED", GuessedEdgesTest::seasonGoesOn);
    }

    /** The same dinners by dinner(), for carpets that are soon done and such that are not. */
    private static void seasonAsPlayed() {
        for (String needs : new String[] {"01", "02", "05", "30"}) {
            for (long seed : SEEDS) {
                AbsentCarpets x = Check.house("AR" + needs + "P0a02P0a09P0a05");
                x.seed(seed);
                int got = x.season(0, 30);
                for (int d = 0; d < 30; d++) {
                    x.dinner(drawnAway(x, seed, d), 0);
                }
                Check.due("season(0, 30) of " + needs + " by " + seed, got, x.room(0, 1));
            }
        }
    }

    private static int drawnAway(AbsentCarpets x, long seed, int dinner) {
        int people = x.count(2);
        int away = 0;
        for (int person = 0; person < people; person++) {
            boolean is = left(drawn(seed, dinner * people + person + 1)) < x.person(person, 3);
            away |= is ? 1 << person : 0;
        }
        return away;
    }

    private static void seasonFromNowOn() {
        AbsentCarpets x = Check.house("AR30R30P0a00P1a00");
        Check.dinners(x, 5, 1, 0);
        Check.dinners(x, 3, 2, 0);
        Check.carpetIs(x, 0, "00000", 3);
        Check.carpetIs(x, 1, "222", 1);
        Check.due("season(0, 1)", x.season(0, 1), 4);
        Check.due("season(0, 5)", x.season(0, 5), 3);
        Check.due("season(0, 17)", x.season(0, 17), 0);
        Check.due("season(0, 30)", x.season(0, 30), 0);
        Check.due("season(1, 2)", x.season(1, 2), 3);
        Check.due("season(1, 3)", x.season(1, 3), 2);
        x.mend(0);
        Check.due("season(0, 3) of a mended one", x.season(0, 3), 5);
        Check.due("season(0, 4) of a mended one", x.season(0, 4), 4);
    }

    private static void seasonChangesNothing() {
        AbsentCarpets x = RefusalsTest.livedIn();
        long before = x.seed(3);
        x.season(0, 30);
        x.season(1, 1);
        Check.holds("the seed changes", x.seed(before) != 3);
        Check.holds("all else is as it was", Check.portrait(x).equals(Check.portrait(RefusalsTest.livedIn())));
    }

    private static void seasonGoesOn() {
        AbsentCarpets x = Check.house("AR30P0a05");
        x.seed(4);
        x.season(0, 3);
        x.season(0, 2);
        Check.due("the seed behind both", x.seed(0), drawn(4, 5).longValue());
    }
}
