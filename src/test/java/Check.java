/** Counts what is not as due, and writes texts into objects. */
final class Check {
    private static int asked = 0;
    private static int wrong = 0;

    private Check() {
    }

    static void due(String call, long got, long want) {
        asked++;
        if (got != want) {
            wrong++;
            System.out.println("  " + call + " answered " + got + ", due is " + want);
        }
    }

    static void holds(String what, boolean is) {
        due(what, is ? 1 : 0, 1);
    }

    /** Ends the test: exit code 1, if something was not as due. */
    static void end() {
        System.out.println("  " + asked + " answers, " + wrong + " wrong");
        if (wrong != 0 || asked == 0) {
            System.exit(1);
        }
    }

    /** Writes a text of bytes (characters 0 to 255) behind what is there, 8 at once. */
    static void tell(AbsentCarpets x, String text) {
        for (int at = 0; at < text.length(); at += 8) {
            String some = text.substring(at, Math.min(text.length(), at + 8));
            x.write(some.length(), packed(some));
        }
    }

    static long packed(String some) {
        long v = 0;
        for (int i = 0; i < some.length(); i++) {
            v = v << 8 | some.charAt(i) & 255;
        }
        return v;
    }

    /** A new object that lives in this house. */
    static AbsentCarpets house(String text) {
        AbsentCarpets x = new AbsentCarpets();
        tell(x, text);
        if (x.house() < 0) {
            due("house() of " + text, x.house(), 0);
        }
        return x;
    }

    /** All that can be asked without a change, but for what is reckoned: to see that nothing changed. */
    static String looks(AbsentCarpets x) {
        StringBuilder all = new StringBuilder();
        for (int what = 0; what <= 8; what++) {
            all.append(x.count(what)).append(' ');
        }
        all.append(x.fault());
        for (int room = 0; room < x.count(1); room++) {
            all.append(" R");
            for (int what = 0; what <= 5; what++) {
                all.append(x.room(room, what)).append(' ');
            }
            for (int k = 0; k < x.room(room, 1); k++) {
                all.append(x.knot(room, k)).append(',');
            }
        }
        for (int person = 0; person < x.count(2); person++) {
            all.append(" P");
            for (int what = 0; what <= 4; what++) {
                all.append(x.person(person, what)).append(' ');
            }
            for (int other = 0; other < x.count(2); other++) {
                all.append(x.quarrel(person, other));
            }
        }
        for (int what = 0; what <= 2; what++) {
            all.append(" W").append(x.who(what));
        }
        long seed = x.seed(0);
        x.seed(seed);
        return all.append(" S").append(seed).toString();
    }
}
