import java.util.Arrays;
import java.util.Random;

/** All promises: long runs of calls by chance, each answered by the class and by the model alike. */
public final class ModelTest {
    private static final int RUNS = 160;
    private static final int CALLS = 512;

    private final Random random;
    private final AbsentCarpets x = new AbsentCarpets();
    private final Model model = new Model();
    private int calls = 0;
    private int dear = 0;

    private ModelTest(long seed) {
        random = new Random(seed);
    }

    public static void main(String[] args) {
        for (int run = 0; run < RUNS; run++) {
            new ModelTest(run).run();
        }
        faultsOfManyTexts();
        plansOfAllRows();
        Check.end();
    }

    private void run() {
        tellHouse(random);
        // one round makes three calls at most
        while (calls <= CALLS - 3) {
            call();
        }
    }

    private void same(String call, long got, long want) {
        calls++;
        Check.due(call, got, want);
    }

    private void tellHouse(Random r) {
        String text = houseByChance(r);
        same("wipe()", x.wipe(), model.wipe());
        for (int at = 0; at < text.length(); at += 8) {
            String some = text.substring(at, Math.min(text.length(), at + 8));
            // what stands above the lowest n bytes does not matter
            long v = Check.packed(some) | (some.length() < 8 ? r.nextLong() << 8 * some.length() : 0);
            same("write", x.write(some.length(), v), model.write(some.length(), v));
        }
        same("fault() of " + text, x.fault(), model.fault());
        same("house() of " + text, x.house(), model.house());
    }

    static String houseByChance(Random r) {
        StringBuilder t = new StringBuilder("A");
        int rooms = 1 + r.nextInt(3);
        int people = r.nextInt(6);
        for (int i = 0; i < rooms; i++) {
            int needed = r.nextInt(3) == 0 ? 1 + r.nextInt(30) : 1 + r.nextInt(6);
            t.append('R').append(needed / 10).append(needed % 10);
        }
        int colours = 1 + r.nextInt(4);
        for (int i = 0; i < people; i++) {
            t.append('P').append(r.nextInt(2) == 0 ? 0 : r.nextInt(rooms));
            t.append((char) ('a' + r.nextInt(colours)));
            t.append(r.nextInt(3) == 0 ? 0 : r.nextInt(10)).append(r.nextInt(10));
        }
        String pairs = "";
        for (int q = r.nextInt(8); q > 0 && people > 1 && t.length() <= 60; q--) {
            int i = r.nextInt(people);
            int j = r.nextInt(people);
            String pair = " " + Math.min(i, j) + Math.max(i, j);
            if (i != j && !pairs.contains(pair)) {
                pairs += pair;
                t.append('Q').append(i).append(j).append(1 + r.nextInt(9));
            }
        }
        return t.toString();
    }

    /** Mostly from least to most, now and then beside them or far out. */
    private int number(int least, int most) {
        int dice = random.nextInt(40);
        if (dice == 0) {
            return least - 1;
        }
        if (dice == 1) {
            return most + 1;
        }
        if (dice == 2) {
            return random.nextInt();
        }
        return least + random.nextInt(Math.max(1, most - least + 1));
    }

    private int aRoom() {
        return number(0, model.needs.size() - 1);
    }

    private int aSet() {
        return number(0, (1 << model.people.size()) - 1);
    }

    private void call() {
        int dice = random.nextInt(100);
        if (dice < 34) {
            callAct();
        } else if (dice < 70) {
            callLook();
        } else if (dice < 86) {
            callGuess();
        } else if (dice < 99) {
            callSlot();
        } else if (random.nextInt(2) == 0 && calls < CALLS - 30) {
            tellHouse(random);
        } else {
            callText();
        }
    }

    private void callAct() {
        int dice = random.nextInt(10);
        int a = aRoom();
        if (dice < 6) {
            int away = aSet();
            int lie = random.nextInt(30) == 0 ? aSet() : away & random.nextInt();
            same("dinner(" + away + ", " + lie + ")", x.dinner(away, lie), model.dinner(away, lie));
        } else if (dice < 7) {
            same("moth(" + a + ")", x.moth(a), model.moth(a));
        } else if (dice < 8) {
            same("mend(" + a + ")", x.mend(a), model.mend(a));
        } else {
            same("undo()", x.undo(), model.undo());
        }
    }

    private void callLook() {
        int dice = random.nextInt(9);
        int a = aRoom();
        int b = aRoom();
        int p = number(0, 4);
        int w = number(0, 5);
        int k = number(0, 8);
        int n = number(1, 6);
        int s = aSet();
        switch (dice) {
            case 0: same("room(" + a + ", " + w + ")", x.room(a, w), model.room(a, w)); break;
            case 1: same("person(" + p + ", " + w + ")", x.person(p, w), model.person(p, w)); break;
            case 2: same("quarrel(" + p + ", " + w + ")", x.quarrel(p, w), model.quarrel(p, w)); break;
            case 3: same("knot(" + a + ", " + k + ")", x.knot(a, k), model.knot(a, k)); break;
            case 4: same("price(" + a + ")", x.price(a), model.price(a)); break;
            case 5: same("fringe(" + a + ", " + b + ")", x.fringe(a, b), model.fringe(a, b)); break;
            case 6: same("trouble(" + s + ")", x.trouble(s), model.trouble(s)); break;
            case 7: same("invite(" + a + ", " + n + ")", x.invite(a, n), model.invite(a, n)); break;
            default:
                int i = number(0, n - 1);
                same("inviteAt(" + a + ", " + n + ", " + i + ")", x.inviteAt(a, n, i), model.inviteAt(a, n, i));
        }
    }

    private void callGuess() {
        int dice = random.nextInt(8);
        int a = aRoom();
        int n = number(0, 3);
        int m = number(1, 30);
        int w = number(0, 2);
        int c = number(0, 3);
        long v = random.nextLong();
        if (dice < 2) {
            int seen = number(0, random.nextInt(4) == 0 ? 5 : 2);
            same("see(" + c + ", " + seen + ")", x.see(c, seen), model.see(c, seen));
        } else if (dice < 5) {
            same("who(" + w + ")", x.who(w), model.who(w));
        } else if (dice < 6) {
            // the model tries all ways, so three dinners of five are asked for a few times alone
            boolean isDear = n == 3 && model.people.size() > 3;
            if (!isDear || dear++ < 2) {
                same("luck(" + a + ", " + n + ", true)", x.luck(a, n, true), model.luck(a, n, true));
                same("luck(" + a + ", " + n + ", false)", x.luck(a, n, false), model.luck(a, n, false));
            }
        } else if (dice < 7) {
            same("season(" + a + ", " + m + ")", x.season(a, m), model.season(a, m));
        } else if (random.nextInt(2) == 0) {
            same("seed(" + v + ")", x.seed(v), model.seed(v));
        } else {
            same("unsee()", x.unsee(), model.unsee());
        }
    }

    private void callSlot() {
        int slot = number(0, 1);
        int what = number(0, 8);
        int dice = random.nextInt(10);
        if (dice < 2) {
            same("keep(" + slot + ")", x.keep(slot), model.keep(slot));
        } else if (dice < 3) {
            same("again(" + slot + ")", x.again(slot), model.again(slot));
        } else {
            same("count(" + what + ")", x.count(what), model.count(what));
        }
    }

    private void callText() {
        int n = number(1, 8);
        long v = random.nextLong();
        same("write(" + n + ", " + v + ")", x.write(n, v), model.write(n, v));
        same("fault()", x.fault(), model.fault());
        same("house()", x.house(), model.house());
    }

    /** Houses cut off, and with a byte or two that are others. */
    private static void faultsOfManyTexts() {
        Random r = new Random(27);
        String bytes = "ARPQ0123456789abcd/:`e\u0000\u00ff";
        for (int i = 0; i < 1500; i++) {
            StringBuilder t = new StringBuilder(houseByChance(r));
            for (int other = r.nextInt(3); other > 0; other--) {
                t.setCharAt(r.nextInt(t.length()), bytes.charAt(r.nextInt(bytes.length())));
            }
            if (r.nextInt(3) == 0) {
                t.append("RPQ".charAt(r.nextInt(3)));
            }
            t.setLength(r.nextInt(3) == 0 ? r.nextInt(t.length() + 1) : t.length());
            t.setLength(Math.min(64, t.length()));
            AbsentCarpets x = new AbsentCarpets();
            Check.tell(x, t.toString());
            Model model = new Model();
            model.text = t.toString();
            int fault = model.fault();
            Check.due("fault() of " + t, x.fault(), fault);
            Check.due("house() of " + t, x.house(), model.house());
        }
    }

    /** Of few people and dinners every row of sets is tried. */
    private static void plansOfAllRows() {
        Random r = new Random(5);
        int[] most = {6, 6, 6, 4, 3, 2};
        for (int i = 0; i < 300; i++) {
            String text = houseByChance(r);
            AbsentCarpets x = Check.house(text);
            Model model = new Model();
            model.text = text;
            model.house();
            for (int d = r.nextInt(6); d > 0; d--) {
                int away = r.nextInt(1 << model.people.size());
                x.dinner(away, 0);
                model.dinner(away, 0);
            }
            int n = 1 + r.nextInt(most[model.people.size()]);
            int room = r.nextInt(model.needs.size());
            int[] least = model.planOfAllRows(room, n);
            int[] got = new int[n + 1];
            int[] none = new int[n + 1];
            Arrays.fill(none, Model.NONE);
            got[0] = x.invite(room, n);
            for (int d = 0; d < n; d++) {
                got[d + 1] = x.inviteAt(room, n, d);
            }
            Check.holds("plan of " + text + " is " + Arrays.toString(got) + ", due is " + Arrays.toString(least),
                    Arrays.equals(got, least == null ? none : least));
        }
    }
}
