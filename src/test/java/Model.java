import java.math.BigInteger;
import java.util.ArrayList;
import java.util.Arrays;
import java.util.List;
import java.util.Map;
import java.util.TreeMap;

/**
 * The document once more, as slow and plain as can be: carpets are lists, every dinner is
 * played person by person, and every set and chance is tried out.
 */
final class Model {
    static final int UNKNOWN = -1, OUTSIDE = -2, STATE = -3, FULL = -4, NONE = -9;
    private static final String PARTS = "0123456789abcd";

    /** What acts change and slots keep. */
    static final class Wear {
        final List<List<Integer>> carpets = new ArrayList<>();
        final List<Integer> steps = new ArrayList<>();
        int dinners;

        Wear copy() {
            Wear w = new Wear();
            for (List<Integer> carpet : carpets) {
                w.carpets.add(new ArrayList<>(carpet));
            }
            w.steps.addAll(steps);
            w.dinners = dinners;
            return w;
        }
    }

    String text = "";
    List<Integer> needs = new ArrayList<>();
    /** Of each person: room, colour, grudge, tenths. */
    List<int[]> people = new ArrayList<>();
    Map<String, Integer> quarrels = new TreeMap<>();
    Wear wear = new Wear();
    List<Wear> acts = new ArrayList<>();
    Wear[] slots = new Wear[2];
    Map<Integer, Integer> told = new TreeMap<>();
    BigInteger seed = BigInteger.ZERO;

    int write(int n, long v) {
        if (n < 1 || n > 8) {
            return OUTSIDE;
        }
        if (text.length() + n > 64) {
            return FULL;
        }
        String bytes = "";
        for (int i = 0; i < n; i++) {
            bytes = (char) (v & 255) + bytes;
            v >>= 8;
        }
        text += bytes;
        return text.length();
    }

    int wipe() {
        int before = text.length();
        text = "";
        return before;
    }

    /** The parts of a whole house, or null if it is none (however long it is). */
    static List<String> partsOf(String t) {
        if (!t.startsWith("A")) {
            return null;
        }
        List<String> parts = new ArrayList<>();
        int rooms = 0;
        int persons = 0;
        List<String> pairs = new ArrayList<>();
        for (int at = 1; at < t.length(); at += parts.get(parts.size() - 1).length()) {
            String rest = t.substring(at);
            String part = rest.substring(0, Math.min(rest.length(), lengthOf(rest.charAt(0))));
            boolean fine;
            if (part.matches("R\\d\\d")) {
                int needed = Integer.parseInt(part.substring(1));
                rooms++;
                fine = needed >= 1 && needed <= 30 && rooms <= 3;
            } else if (part.matches("P\\d[a-d]\\d\\d")) {
                persons++;
                fine = part.charAt(1) - '0' < rooms && persons <= 5;
            } else if (part.matches("Q\\d\\d[1-9]")) {
                int i = part.charAt(1) - '0';
                int j = part.charAt(2) - '0';
                String pair = Math.min(i, j) + "," + Math.max(i, j);
                fine = i != j && i < persons && j < persons && !pairs.contains(pair);
                pairs.add(pair);
            } else {
                fine = false;
            }
            if (!fine) {
                return null;
            }
            parts.add(part);
        }
        return parts;
    }

    private static int lengthOf(char name) {
        return name == 'R' ? 3 : name == 'P' ? 5 : name == 'Q' ? 4 : 1;
    }

    /** Whether a house can go on from a text: all that can end its last part is tried. */
    static boolean canGoOn(String t, int more) {
        if (partsOf(t) != null) {
            return true;
        }
        for (int i = 0; i < PARTS.length() && more > 0; i++) {
            if (canGoOn(t + PARTS.charAt(i), more - 1)) {
                return true;
            }
        }
        return false;
    }

    int fault() {
        for (int at = 0; at < text.length(); at++) {
            if (!canGoOn(text.substring(0, at + 1), missing(text.substring(0, at + 1)))) {
                return at;
            }
        }
        return partsOf(text) == null ? text.length() : NONE;
    }

    /** How many bytes the last part of a text lacks. */
    private static int missing(String t) {
        int at = 1;
        while (at < t.length() && at + lengthOf(t.charAt(at)) <= t.length()) {
            at += lengthOf(t.charAt(at));
        }
        return at < t.length() ? at + lengthOf(t.charAt(at)) - t.length() : 0;
    }

    int house() {
        List<String> parts = partsOf(text);
        if (parts == null) {
            return STATE;
        }
        needs = new ArrayList<>();
        people = new ArrayList<>();
        quarrels = new TreeMap<>();
        wear = new Wear();
        for (String p : parts) {
            if (p.charAt(0) == 'R') {
                needs.add(Integer.parseInt(p.substring(1)));
                wear.carpets.add(new ArrayList<>());
                wear.steps.add(0);
            } else if (p.charAt(0) == 'P') {
                people.add(new int[] {p.charAt(1) - '0', p.charAt(2) - 'a', p.charAt(3) - '0', p.charAt(4) - '0'});
            } else {
                quarrels.put("" + p.charAt(1) + p.charAt(2), p.charAt(3) - '0');
            }
        }
        acts.clear();
        Arrays.fill(slots, null);
        return 10 * needs.size() + people.size();
    }

    boolean isRoom(int room) {
        return room >= 0 && room < needs.size();
    }

    boolean isPerson(int person) {
        return person >= 0 && person < people.size();
    }

    boolean isSet(int those) {
        return those >= 0 && those < 1 << people.size();
    }

    int room(int room, int what) {
        if (!isRoom(room)) {
            return UNKNOWN;
        }
        List<Integer> carpet = wear.carpets.get(room);
        if (what == 0) {
            return needs.get(room);
        } else if (what == 1) {
            return carpet.size();
        } else if (what == 2) {
            return wear.steps.get(room);
        } else if (what == 3) {
            return carpet.size() == needs.get(room) ? 1 : 0;
        } else if (what == 4) {
            return (int) carpet.stream().filter(k -> k % 2 == 1).count();
        } else if (what == 5) {
            int bits = 0;
            for (int p = 0; p < people.size(); p++) {
                bits += people.get(p)[0] == room ? 1 << p : 0;
            }
            return bits;
        }
        return OUTSIDE;
    }

    int person(int person, int what) {
        if (!isPerson(person)) {
            return UNKNOWN;
        }
        if (what == 4) {
            int sum = 0;
            for (List<Integer> carpet : wear.carpets) {
                sum += (int) carpet.stream().filter(k -> k / 2 == person).count();
            }
            return sum;
        }
        return what < 0 || what > 4 ? OUTSIDE : people.get(person)[what];
    }

    int quarrel(int i, int j) {
        if (!isPerson(i) || !isPerson(j)) {
            return UNKNOWN;
        }
        return quarrels.getOrDefault("" + i + j, quarrels.getOrDefault("" + j + i, 0));
    }

    int knot(int room, int k) {
        if (!isRoom(room)) {
            return UNKNOWN;
        }
        List<Integer> carpet = wear.carpets.get(room);
        return k < 0 || k >= carpet.size() ? NONE : carpet.get(k);
    }

    private void act() {
        acts.add(wear.copy());
        if (acts.size() > 16) {
            acts.remove(0);
        }
    }

    /** A dinner on these carpets: how many knots were woven. */
    private int play(Wear w, int away, int lie) {
        int woven = 0;
        for (int p = 0; p < people.size(); p++) {
            int room = people.get(p)[0];
            if ((away & 1 << p) != 0 && w.carpets.get(room).size() < needs.get(room)) {
                w.carpets.get(room).add(2 * p + ((lie & 1 << p) != 0 ? 1 : 0));
                woven++;
            }
        }
        for (int p = 0; p < people.size(); p++) {
            int room = people.get(p)[0];
            if ((away & 1 << p) == 0) {
                w.steps.set(room, w.steps.get(room) + 1);
                if (w.steps.get(room) == 4) {
                    w.steps.set(room, 0);
                    if (!w.carpets.get(room).isEmpty()) {
                        w.carpets.get(room).remove(0);
                    }
                }
            }
        }
        w.dinners++;
        return woven;
    }

    int dinner(int away, int lie) {
        if (!isSet(away) || !isSet(lie) || (away & lie) != lie) {
            return OUTSIDE;
        }
        act();
        return play(wear, away, lie);
    }

    int moth(int room) {
        if (!isRoom(room)) {
            return UNKNOWN;
        }
        if (wear.carpets.get(room).isEmpty()) {
            return STATE;
        }
        act();
        return wear.carpets.get(room).remove(wear.carpets.get(room).size() - 1);
    }

    int mend(int room) {
        if (!isRoom(room)) {
            return UNKNOWN;
        }
        if (wear.steps.get(room) == 0) {
            return STATE;
        }
        act();
        return wear.steps.set(room, 0);
    }

    int undo() {
        if (acts.isEmpty()) {
            return STATE;
        }
        wear = acts.remove(acts.size() - 1);
        return acts.size();
    }

    int price(int room) {
        if (!isRoom(room)) {
            return UNKNOWN;
        }
        int sum = 0;
        for (int k : wear.carpets.get(room)) {
            sum += (1 + people.get(k / 2)[2]) * (k % 2 == 1 ? 2 : 1);
        }
        return Math.max(0, sum - wear.steps.get(room));
    }

    int fringe(int room, int other) {
        if (!isRoom(room) || !isRoom(other)) {
            return UNKNOWN;
        }
        if (room == other) {
            return OUTSIDE;
        }
        String one = looks(room);
        String two = looks(other);
        int alike = 0;
        for (int n = 0; n <= Math.min(one.length(), two.length()); n++) {
            if (one.substring(one.length() - n).equals(two.substring(two.length() - n))) {
                alike = n;
            }
        }
        return alike;
    }

    private String looks(int room) {
        String s = "";
        for (int k : wear.carpets.get(room)) {
            s += (k % 2 == 1 ? "ABCD" : "abcd").charAt(people.get(k / 2)[1]);
        }
        return s;
    }

    int trouble(int those) {
        if (!isSet(those)) {
            return OUTSIDE;
        }
        int sum = 0;
        for (int i = 0; i < people.size(); i++) {
            if ((those & 1 << i) == 0) {
                sum += people.get(i)[2];
            }
            for (int j = 0; j < i; j++) {
                sum += (those & 1 << i) != 0 && (those & 1 << j) != 0 ? quarrel(i, j) : 0;
            }
        }
        return sum;
    }

    /** The least trouble and the sets by which it is kept, in front of them; null: it can not be. */
    private int[] plan(int room, int n) {
        Map<String, int[]> best = new TreeMap<>();
        Map<String, Wear> how = new TreeMap<>();
        best.put("", new int[] {0});
        how.put("", wear.copy());
        for (int d = 0; d < n; d++) {
            Map<String, int[]> nextBest = new TreeMap<>();
            Map<String, Wear> nextHow = new TreeMap<>();
            for (String key : best.keySet()) {
                for (int those = 0; those < 1 << people.size(); those++) {
                    Wear w = how.get(key).copy();
                    play(w, (1 << people.size()) - 1 - those, 0);
                    int[] way = Arrays.copyOf(best.get(key), d + 2);
                    way[0] += trouble(those);
                    way[d + 1] = those;
                    String k = w.carpets.get(room).size() + "/" + w.steps.get(room);
                    if (!nextBest.containsKey(k) || Arrays.compare(way, nextBest.get(k)) < 0) {
                        nextBest.put(k, way);
                        nextHow.put(k, w);
                    }
                }
            }
            best = nextBest;
            how = nextHow;
        }
        int[] least = null;
        for (String key : best.keySet()) {
            if (how.get(key).carpets.get(room).size() == needs.get(room)
                    && (least == null || Arrays.compare(best.get(key), least) < 0)) {
                least = best.get(key);
            }
        }
        return least;
    }

    int invite(int room, int n) {
        if (!isRoom(room)) {
            return UNKNOWN;
        }
        if (n < 1 || n > 6) {
            return OUTSIDE;
        }
        int[] least = plan(room, n);
        return least == null ? NONE : least[0];
    }

    int inviteAt(int room, int n, int i) {
        if (!isRoom(room)) {
            return UNKNOWN;
        }
        if (n < 1 || n > 6) {
            return OUTSIDE;
        }
        int[] least = plan(room, n);
        return least == null || i < 0 || i >= n ? NONE : least[i + 1];
    }

    /** Every row of sets tried out: what plan() finds, for few people and few dinners. */
    int[] planOfAllRows(int room, int n) {
        int sets = 1 << people.size();
        int rows = (int) Math.pow(sets, n);
        int[] least = null;
        for (int row = 0; row < rows; row++) {
            Wear w = wear.copy();
            int[] way = new int[n + 1];
            int rest = row;
            for (int i = n; i >= 1; i--) {
                way[i] = rest % sets;
                rest /= sets;
            }
            for (int i = 1; i <= n; i++) {
                way[0] += trouble(way[i]);
                play(w, sets - 1 - way[i], 0);
            }
            if (w.carpets.get(room).size() == needs.get(room)
                    && (least == null || Arrays.compare(way, least) < 0)) {
                least = way;
            }
        }
        return least;
    }

    int see(int colour, int m) {
        if (colour < 0 || colour > 3 || m < 0 || m > 5) {
            return OUTSIDE;
        }
        Integer before = told.put(colour, m);
        return before == null ? NONE : before;
    }

    int unsee() {
        int before = told.size();
        told.clear();
        return before;
    }

    int who(int what) {
        if (what < 0 || what > 2) {
            return OUTSIDE;
        }
        List<Integer> fit = new ArrayList<>();
        for (int away = 0; away < 1 << people.size(); away++) {
            int[] woven = new int[4];
            for (int p = 0; p < people.size(); p++) {
                woven[people.get(p)[1]] += away >> p & 1;
            }
            boolean fits = true;
            for (int colour : told.keySet()) {
                fits &= woven[colour] == told.get(colour);
            }
            if (fits) {
                fit.add(away);
            }
        }
        if (what == 0) {
            return fit.size();
        }
        int sure = (1 << people.size()) - 1;
        for (int away : fit) {
            sure &= what == 1 ? away : ~away;
        }
        return fit.isEmpty() ? NONE : sure;
    }

    /** In how many of all ways (each person has ten a dinner) the carpet is done behind n more. */
    private BigInteger ways(Wear w, int room, int n) {
        if (n == 0) {
            return w.carpets.get(room).size() == needs.get(room) ? BigInteger.ONE : BigInteger.ZERO;
        }
        BigInteger sum = BigInteger.ZERO;
        for (int away = 0; away < 1 << people.size(); away++) {
            long ways = 1;
            for (int p = 0; p < people.size(); p++) {
                int tenths = people.get(p)[3];
                ways *= (away >> p & 1) == 1 ? tenths : 10 - tenths;
            }
            if (ways != 0) {
                Wear then = w.copy();
                play(then, away, 0);
                sum = sum.add(BigInteger.valueOf(ways).multiply(ways(then, room, n - 1)));
            }
        }
        return sum;
    }

    long luck(int room, int n, boolean upper) {
        if (!isRoom(room)) {
            return UNKNOWN;
        }
        if (n < 0 || n > 3) {
            return OUTSIDE;
        }
        BigInteger done = ways(wear, room, n);
        BigInteger all = BigInteger.TEN.pow(people.size() * n);
        return (upper ? done : all).divide(done.gcd(all)).longValueExact();
    }

    long seed(long v) {
        long before = seed.longValue();
        seed = BigInteger.valueOf(v);
        return before;
    }

    int season(int room, int m) {
        if (!isRoom(room)) {
            return UNKNOWN;
        }
        if (m < 1 || m > 30) {
            return OUTSIDE;
        }
        Wear w = wear.copy();
        BigInteger wrap = BigInteger.TWO.pow(64);
        for (int d = 0; d < m; d++) {
            int away = 0;
            for (int p = 0; p < people.size(); p++) {
                seed = seed.multiply(new BigInteger("6364136223846793005"))
                        .add(new BigInteger("1442695040888963407")).mod(wrap);
                int left = seed.divide(BigInteger.TWO.pow(33)).mod(BigInteger.TEN).intValue();
                away |= left < people.get(p)[3] ? 1 << p : 0;
            }
            play(w, away, 0);
        }
        return w.carpets.get(room).size();
    }

    int keep(int slot) {
        if (slot < 0 || slot > 1) {
            return UNKNOWN;
        }
        slots[slot] = wear.copy();
        return wear.dinners;
    }

    int again(int slot) {
        if (slot < 0 || slot > 1) {
            return UNKNOWN;
        }
        if (slots[slot] == null) {
            return STATE;
        }
        wear = slots[slot].copy();
        acts.clear();
        return wear.dinners;
    }

    int count(int what) {
        int bits = 0;
        int knots = 0;
        for (int room = 0; room < needs.size(); room++) {
            bits |= room(room, 3) << room;
            knots += room(room, 1);
        }
        int[] all = {text.length(), needs.size(), people.size(), wear.dinners, bits, knots, acts.size(),
            told.size(), quarrels.size()};
        return what < 0 || what > 8 ? OUTSIDE : all[what];
    }
}
