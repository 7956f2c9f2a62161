/**
 * A house in which whoever stays away from a dinner weaves a knot into the carpet of their room.
 * What each call does is told, as numbered promises, in ../shared/DOC.md.
 */
public final class AbsentCarpets {
    public static final int UNKNOWN = -1, OUTSIDE = -2, STATE = -3, FULL = -4, NONE = -9;

    private static final int MOST_BYTES = 64;
    private static final int MOST_ROOMS = 3;
    private static final int MOST_PEOPLE = 5;
    private static final int MOST_KNOTS = 30;
    private static final int MOST_ACTS = 16;
    private static final int SLOTS = 2;
    private static final int COLOURS = 4;
    private static final int MOST_INVITED = 6;
    private static final int MOST_LUCK = 3;
    private static final int MOST_SEASON = 30;
    /** Behind so many steps a carpet loses its first knot, so it has always fewer. */
    private static final int WEARING_STEPS = 4;
    /** How a carpet can stand: its knots and its steps in one number (see behindDinner). */
    private static final int STANDS = (MOST_KNOTS + 1) * WEARING_STEPS;

    private final int[] text = new int[MOST_BYTES];
    private int textLength = 0;
    private final Reader reader = new Reader();
    private House lived = new House();
    private final Carpets carpets = new Carpets();
    private final Acts acts = new Acts();
    private final int[][] slots = new int[SLOTS][Carpets.SIZE];
    private final boolean[] slotFilled = new boolean[SLOTS];
    private final Evening evening = new Evening();
    private final Planner planner = new Planner();
    private final Chances chances = new Chances();
    private long seedNow = 0L;

    public AbsentCarpets() {
    }

    // ---- the house

    public int write(int n, long v) {
        if (n < 1 || n > 8) {
            return OUTSIDE;
        }
        if (textLength + n > MOST_BYTES) {
            return FULL;
        }
        for (int i = n - 1; i >= 0; i--) {
            text[textLength] = (int) (v >>> (8 * i)) & 255;
            textLength++;
        }
        return textLength;
    }

    public int wipe() {
        int before = textLength;
        textLength = 0;
        return before;
    }

    public int fault() {
        return reader.readAll(text, textLength);
    }

    public int house() {
        if (reader.readAll(text, textLength) != NONE) {
            return STATE;
        }
        lived = reader.handOver(lived);
        carpets.clear();
        acts.clear();
        for (int slot = 0; slot < SLOTS; slot++) {
            slotFilled[slot] = false;
        }
        return 10 * lived.rooms + lived.people;
    }

    public int room(int room, int what) {
        if (!lived.hasRoom(room)) {
            return UNKNOWN;
        }
        switch (what) {
            case 0: return lived.needsOf(room);
            case 1: return carpets.knotsOf(room);
            case 2: return carpets.stepsOf(room);
            case 3: return isDone(room) ? 1 : 0;
            case 4: return carpets.redOf(room);
            case 5: return lived.membersOf(room);
            default: return OUTSIDE;
        }
    }

    public int person(int person, int what) {
        if (!lived.hasPerson(person)) {
            return UNKNOWN;
        }
        switch (what) {
            case 0: return lived.roomOf[person];
            case 1: return lived.colourOf[person];
            case 2: return lived.grudgeOf[person];
            case 3: return lived.tenthsOf[person];
            case 4: return carpets.knotsBy(person, lived.roomOf[person]);
            default: return OUTSIDE;
        }
    }

    public int quarrel(int i, int j) {
        if (!lived.hasPerson(i) || !lived.hasPerson(j)) {
            return UNKNOWN;
        }
        return lived.quarrelBetween(i, j);
    }

    public int knot(int room, int k) {
        if (!lived.hasRoom(room)) {
            return UNKNOWN;
        }
        return carpets.knotAt(room, k);
    }

    // ---- acts

    public int dinner(int away, int lie) {
        if (!lived.hasSet(away) || (lie & ~away) != 0) {
            return OUTSIDE;
        }
        acts.remember(carpets);
        carpets.countDinner();
        int woven = weaveAll(away, lie);
        stepAll(lived.everyone() & ~away);
        return woven;
    }

    public int moth(int room) {
        if (!lived.hasRoom(room)) {
            return UNKNOWN;
        }
        int knots = carpets.knotsOf(room);
        if (knots == 0) {
            return STATE;
        }
        acts.remember(carpets);
        int eaten = carpets.knotAt(room, knots - 1);
        carpets.loseLast(room);
        return eaten;
    }

    public int mend(int room) {
        if (!lived.hasRoom(room)) {
            return UNKNOWN;
        }
        int steps = carpets.stepsOf(room);
        if (steps == 0) {
            return STATE;
        }
        acts.remember(carpets);
        carpets.loseSteps(room);
        return steps;
    }

    public int undo() {
        if (acts.size == 0) {
            return STATE;
        }
        acts.takeBack(carpets);
        return acts.size;
    }

    // ---- looked at

    public int price(int room) {
        if (!lived.hasRoom(room)) {
            return UNKNOWN;
        }
        int sum = 0;
        int knots = carpets.knotsOf(room);
        for (int k = 0; k < knots; k++) {
            sum += priceOfKnot(carpets.knotAt(room, k));
        }
        return Math.max(0, sum - carpets.stepsOf(room));
    }

    public int fringe(int room, int other) {
        if (!lived.hasRoom(room) || !lived.hasRoom(other)) {
            return UNKNOWN;
        }
        if (room == other) {
            return OUTSIDE;
        }
        int end = carpets.knotsOf(room);
        int otherEnd = carpets.knotsOf(other);
        int shorter = Math.min(end, otherEnd);
        int alike = 0;
        while (alike < shorter && looksOfKnot(carpets.knotAt(room, end - 1 - alike))
                == looksOfKnot(carpets.knotAt(other, otherEnd - 1 - alike))) {
            alike++;
        }
        return alike;
    }

    public int trouble(int those) {
        if (!lived.hasSet(those)) {
            return OUTSIDE;
        }
        return lived.troubleIf(those);
    }

    public int invite(int room, int n) {
        if (!lived.hasRoom(room)) {
            return UNKNOWN;
        }
        if (n < 1 || n > MOST_INVITED) {
            return OUTSIDE;
        }
        planner.plan(lived, room, n);
        return planner.leastTrouble(n, standOf(room));
    }

    public int inviteAt(int room, int n, int i) {
        if (!lived.hasRoom(room)) {
            return UNKNOWN;
        }
        if (n < 1 || n > MOST_INVITED) {
            return OUTSIDE;
        }
        planner.plan(lived, room, n);
        return planner.setOfDinner(n, i, standOf(room));
    }

    // ---- guessed

    public int see(int colour, int m) {
        if (colour < 0 || colour >= COLOURS || m < 0 || m > MOST_PEOPLE) {
            return OUTSIDE;
        }
        int before = evening.told[colour];
        evening.told[colour] = m;
        return before;
    }

    public int unsee() {
        int before = evening.toldColours();
        evening.forget();
        return before;
    }

    public int who(int what) {
        switch (what) {
            case 0: return evening.setsThatFit(lived);
            case 1: return evening.surelyAway(lived);
            case 2: return evening.surelyCame(lived);
            default: return OUTSIDE;
        }
    }

    public long luck(int room, int n, boolean upper) {
        if (!lived.hasRoom(room)) {
            return UNKNOWN;
        }
        if (n < 0 || n > MOST_LUCK) {
            return OUTSIDE;
        }
        chances.reckon(lived, room, n, standOf(room));
        return upper ? chances.above() : chances.below();
    }

    public long seed(long v) {
        long before = seedNow;
        seedNow = v;
        return before;
    }

    public int season(int room, int m) {
        if (!lived.hasRoom(room)) {
            return UNKNOWN;
        }
        if (m < 1 || m > MOST_SEASON) {
            return OUTSIDE;
        }
        int members = lived.membersOf(room);
        int stand = standOf(room);
        for (int i = 0; i < m; i++) {
            int away = drawAway();
            stand = behindDinner(stand, lived.needsOf(room),
                    Integer.bitCount(away & members), Integer.bitCount(members & ~away));
        }
        return stand / WEARING_STEPS;
    }

    // ---- slots

    public int keep(int slot) {
        if (slot < 0 || slot >= SLOTS) {
            return UNKNOWN;
        }
        carpets.copyTo(slots[slot]);
        slotFilled[slot] = true;
        return carpets.dinners();
    }

    public int again(int slot) {
        if (slot < 0 || slot >= SLOTS) {
            return UNKNOWN;
        }
        if (!slotFilled[slot]) {
            return STATE;
        }
        carpets.copyFrom(slots[slot]);
        acts.clear();
        return carpets.dinners();
    }

    public int count(int what) {
        switch (what) {
            case 0: return textLength;
            case 1: return lived.rooms;
            case 2: return lived.people;
            case 3: return carpets.dinners();
            case 4: return doneRooms();
            case 5: return knotsOfAll();
            case 6: return acts.size;
            case 7: return evening.toldColours();
            case 8: return lived.quarrels;
            default: return OUTSIDE;
        }
    }

    // ---- what the calls share

    private boolean isDone(int room) {
        return carpets.knotsOf(room) >= lived.needsOf(room);
    }

    private int doneRooms() {
        int done = 0;
        for (int room = 0; room < lived.rooms; room++) {
            if (isDone(room)) {
                done |= 1 << room;
            }
        }
        return done;
    }

    private int knotsOfAll() {
        int sum = 0;
        for (int room = 0; room < lived.rooms; room++) {
            sum += carpets.knotsOf(room);
        }
        return sum;
    }

    private int weaveAll(int away, int lie) {
        int woven = 0;
        for (int person = 0; person < lived.people; person++) {
            int room = lived.roomOf[person];
            if ((away >> person & 1) == 1 && !isDone(room)) {
                carpets.weave(room, 2 * person + (lie >> person & 1));
                woven++;
            }
        }
        return woven;
    }

    private void stepAll(int came) {
        for (int person = 0; person < lived.people; person++) {
            if ((came >> person & 1) == 1) {
                carpets.step(lived.roomOf[person]);
            }
        }
    }

    private int priceOfKnot(int knot) {
        int person = knot >> 1;
        if (!lived.hasPerson(person)) {
            return 0;
        }
        int plain = 1 + lived.grudgeOf[person];
        return (knot & 1) == 1 ? 2 * plain : plain;
    }

    /** Two knots are alike just if this number is the same: their colour, and whether they are red. */
    private int looksOfKnot(int knot) {
        int person = knot >> 1;
        if (!lived.hasPerson(person)) {
            return NONE;
        }
        return 2 * lived.colourOf[person] + (knot & 1);
    }

    private int standOf(int room) {
        return carpets.knotsOf(room) * WEARING_STEPS + carpets.stepsOf(room);
    }

    /** Draws who stays away from one dinner of a season; the seed goes on for each person. */
    private int drawAway() {
        int away = 0;
        for (int person = 0; person < lived.people; person++) {
            seedNow = seedNow * 6364136223846793005L + 1442695040888963407L;
            if ((seedNow >>> 33) % 10 < lived.tenthsOf[person]) {
                away |= 1 << person;
            }
        }
        return away;
    }

    /**
     * How a carpet stands (its knots times 4, and its steps) behind a dinner, to which so many
     * of its room came, and from which so many stayed away. Which knot is whose does not
     * matter to how many there are, so whoever only counts knots needs no carpet.
     */
    private static int behindDinner(int stand, int needs, int away, int came) {
        int knots = Math.min(needs, stand / WEARING_STEPS + away);
        int steps = stand % WEARING_STEPS + came;
        int left = Math.max(0, knots - steps / WEARING_STEPS);
        return left * WEARING_STEPS + steps % WEARING_STEPS;
    }

    /** Rooms, people and quarrels, as a text told them. */
    private static final class House {
        int rooms = 0;
        int people = 0;
        int quarrels = 0;
        final int[] needs = new int[MOST_ROOMS];
        final int[] roomOf = new int[MOST_PEOPLE];
        final int[] colourOf = new int[MOST_PEOPLE];
        final int[] grudgeOf = new int[MOST_PEOPLE];
        final int[] tenthsOf = new int[MOST_PEOPLE];
        final int[] quarrelOf = new int[MOST_PEOPLE * MOST_PEOPLE];

        void clear() {
            rooms = 0;
            people = 0;
            quarrels = 0;
            for (int i = 0; i < quarrelOf.length; i++) {
                quarrelOf[i] = 0;
            }
        }

        boolean hasRoom(int room) {
            return room >= 0 && room < rooms;
        }

        boolean hasPerson(int person) {
            return person >= 0 && person < people;
        }

        boolean hasSet(int those) {
            return those >= 0 && those <= everyone();
        }

        int everyone() {
            return (1 << people) - 1;
        }

        int needsOf(int room) {
            return hasRoom(room) ? needs[room] : 0;
        }

        int membersOf(int room) {
            int members = 0;
            for (int person = 0; person < people; person++) {
                if (roomOf[person] == room) {
                    members |= 1 << person;
                }
            }
            return members;
        }

        int quarrelBetween(int i, int j) {
            return hasPerson(i) && hasPerson(j) ? quarrelOf[i * MOST_PEOPLE + j] : 0;
        }

        boolean canQuarrel(int i, int j) {
            return hasPerson(i) && hasPerson(j) && i != j && quarrelOf[i * MOST_PEOPLE + j] == 0;
        }

        boolean canQuarrelWithSome(int i) {
            for (int j = 0; j < people; j++) {
                if (canQuarrel(i, j)) {
                    return true;
                }
            }
            return false;
        }

        boolean canQuarrelAtAll() {
            return quarrels < people * (people - 1) / 2;
        }

        int troubleIf(int those) {
            int sum = 0;
            for (int i = 0; i < people; i++) {
                if ((those >> i & 1) == 0) {
                    sum += grudgeOf[i];
                } else {
                    sum += quarrelsWithEarlier(i, those);
                }
            }
            return sum;
        }

        private int quarrelsWithEarlier(int i, int those) {
            int sum = 0;
            for (int j = 0; j < i && j < people; j++) {
                if ((those >> j & 1) == 1) {
                    sum += quarrelBetween(i, j);
                }
            }
            return sum;
        }

        void addRoom(int needed) {
            if (rooms < MOST_ROOMS) {
                needs[rooms] = needed;
                rooms++;
            }
        }

        void addPerson(int room, int colour, int grudge, int tenths) {
            if (people < MOST_PEOPLE) {
                roomOf[people] = room;
                colourOf[people] = colour;
                grudgeOf[people] = grudge;
                tenthsOf[people] = tenths;
                people++;
            }
        }

        /** Of two that can quarrel, which the reader has looked at. */
        void addQuarrel(int i, int j, int v) {
            if (hasPerson(i) && hasPerson(j)) {
                quarrelOf[i * MOST_PEOPLE + j] = v;
                quarrelOf[j * MOST_PEOPLE + i] = v;
                quarrels++;
            }
        }
    }

    /**
     * Reads a text byte by byte into a draft of a house. It takes a byte only if some house
     * goes on from there, so the first byte that it does not take is the fault.
     */
    private static final class Reader {
        static final int START = 0, BETWEEN = 1, IN_ROOM = 2, IN_PERSON = 3, IN_QUARREL = 4;

        private House draft = new House();
        private int where = START;
        /** The numbers of the part that is being read, as far as it was read. */
        private final int[] numbers = new int[4];
        private int read = 0;

        int readAll(int[] text, int length) {
            draft.clear();
            where = START;
            read = 0;
            for (int i = 0; i < length && i < text.length; i++) {
                if (!takes(text[i])) {
                    return i;
                }
            }
            return where == BETWEEN ? NONE : length;
        }

        /** Gives the house that was read away, for one that may be written over. */
        House handOver(House spare) {
            House whole = draft;
            draft = spare;
            return whole;
        }

        private boolean takes(int b) {
            switch (where) {
                case START: return opens(b == 'A', BETWEEN);
                case BETWEEN: return takesName(b);
                case IN_ROOM: return takesOfRoom(b - '0');
                case IN_PERSON: return takesOfPerson(b);
                case IN_QUARREL: return takesOfQuarrel(b - '0');
                default: return false;
            }
        }

        private boolean takesName(int b) {
            switch (b) {
                case 'R': return opens(draft.rooms < MOST_ROOMS, IN_ROOM);
                case 'P': return opens(draft.rooms > 0 && draft.people < MOST_PEOPLE, IN_PERSON);
                case 'Q': return opens(draft.canQuarrelAtAll(), IN_QUARREL);
                default: return false;
            }
        }

        private boolean opens(boolean may, int next) {
            if (may) {
                where = next;
                read = 0;
            }
            return may;
        }

        private boolean takesOfRoom(int digit) {
            if (read == 0) {
                return notes(digit, 0, MOST_KNOTS / 10);
            }
            int needed = 10 * numbers[0] + digit;
            if (digit < 0 || digit > 9 || needed < 1 || needed > MOST_KNOTS) {
                return false;
            }
            draft.addRoom(needed);
            return opens(true, BETWEEN);
        }

        private boolean takesOfPerson(int b) {
            switch (read) {
                case 0: return notes(b - '0', 0, draft.rooms - 1);
                case 1: return notes(b - 'a', 0, COLOURS - 1);
                case 2: return notes(b - '0', 0, 9);
                default: return endsPerson(b - '0');
            }
        }

        private boolean endsPerson(int tenths) {
            if (!notes(tenths, 0, 9)) {
                return false;
            }
            draft.addPerson(numbers[0], numbers[1], numbers[2], numbers[3]);
            return opens(true, BETWEEN);
        }

        private boolean takesOfQuarrel(int digit) {
            switch (read) {
                case 0: return draft.canQuarrelWithSome(digit) && notes(digit, 0, MOST_PEOPLE - 1);
                case 1: return draft.canQuarrel(numbers[0], digit) && notes(digit, 0, MOST_PEOPLE - 1);
                default: return endsQuarrel(digit);
            }
        }

        private boolean endsQuarrel(int v) {
            if (!notes(v, 1, 9)) {
                return false;
            }
            draft.addQuarrel(numbers[0], numbers[1], numbers[2]);
            return opens(true, BETWEEN);
        }

        private boolean notes(int number, int least, int most) {
            if (number < least || number > most || read < 0 || read >= numbers.length) {
                return false;
            }
            numbers[read] = number;
            read++;
            return true;
        }
    }

    /**
     * All that an act can change and a slot keeps, in one row of cells, so that it is copied
     * whole: how many dinners there were, and of each room its knots and its steps.
     */
    private static final class Carpets {
        static final int LENGTHS = 1;
        static final int STEPS = LENGTHS + MOST_ROOMS;
        static final int KNOTS = STEPS + MOST_ROOMS;
        static final int SIZE = KNOTS + MOST_ROOMS * MOST_KNOTS;

        private final int[] cells = new int[SIZE];

        void clear() {
            for (int i = 0; i < SIZE; i++) {
                cells[i] = 0;
            }
        }

        void copyTo(int[] row) {
            if (row.length == SIZE) {
                System.arraycopy(cells, 0, row, 0, SIZE);
            }
        }

        void copyFrom(int[] row) {
            if (row.length == SIZE) {
                System.arraycopy(row, 0, cells, 0, SIZE);
            }
        }

        int dinners() {
            return cells[0];
        }

        void countDinner() {
            cells[0]++;
        }

        int knotsOf(int room) {
            return isRoom(room) ? cells[LENGTHS + room] : 0;
        }

        int stepsOf(int room) {
            return isRoom(room) ? cells[STEPS + room] : 0;
        }

        /** 2 times whose it is, and 1 if it is red. */
        int knotAt(int room, int k) {
            return k >= 0 && k < knotsOf(room) ? cells[firstCell(room) + k] : NONE;
        }

        int redOf(int room) {
            int red = 0;
            int knots = knotsOf(room);
            for (int k = 0; k < knots; k++) {
                red += knotAt(room, k) & 1;
            }
            return red;
        }

        int knotsBy(int person, int room) {
            int sum = 0;
            int knots = knotsOf(room);
            for (int k = 0; k < knots; k++) {
                if (knotAt(room, k) >> 1 == person) {
                    sum++;
                }
            }
            return sum;
        }

        void weave(int room, int knot) {
            int knots = knotsOf(room);
            if (isRoom(room) && knots < MOST_KNOTS) {
                cells[firstCell(room) + knots] = knot;
                cells[LENGTHS + room] = knots + 1;
            }
        }

        void step(int room) {
            if (!isRoom(room)) {
                return;
            }
            cells[STEPS + room]++;
            if (cells[STEPS + room] >= WEARING_STEPS) {
                cells[STEPS + room] = 0;
                loseFirst(room);
            }
        }

        private void loseFirst(int room) {
            int knots = knotsOf(room);
            if (knots > 0) {
                int first = firstCell(room);
                System.arraycopy(cells, first + 1, cells, first, knots - 1);
                cells[LENGTHS + room] = knots - 1;
            }
        }

        void loseLast(int room) {
            if (knotsOf(room) > 0) {
                cells[LENGTHS + room]--;
            }
        }

        void loseSteps(int room) {
            if (isRoom(room)) {
                cells[STEPS + room] = 0;
            }
        }

        private static boolean isRoom(int room) {
            return room >= 0 && room < MOST_ROOMS;
        }

        private static int firstCell(int room) {
            return KNOTS + room * MOST_KNOTS;
        }
    }

    /** How the carpets were ahead of each of the last acts. */
    private static final class Acts {
        private final int[][] rows = new int[MOST_ACTS][Carpets.SIZE];
        private int next = 0;
        int size = 0;

        void clear() {
            size = 0;
        }

        void remember(Carpets carpets) {
            carpets.copyTo(rows[next]);
            next = (next + 1) % MOST_ACTS;
            size = Math.min(MOST_ACTS, size + 1);
        }

        void takeBack(Carpets carpets) {
            if (size > 0) {
                next = (next + MOST_ACTS - 1) % MOST_ACTS;
                size--;
                carpets.copyFrom(rows[next]);
            }
        }
    }

    /** Whom to invite so that a carpet is done with least trouble. */
    private static final class Planner {
        /** More than any trouble of six dinners. */
        private static final int NEVER = 1000000;

        /** By dinners to come and how the carpet stands: the least trouble by which it gets done. */
        private final int[][] least = new int[MOST_INVITED + 1][STANDS];
        /** By how many of the room come: the least trouble of a set, and the first such set. */
        private final int[] troubleOf = new int[MOST_PEOPLE + 1];
        private final int[] setOf = new int[MOST_PEOPLE + 1];
        private int needs = 0;
        private int members = 0;

        void plan(House house, int room, int n) {
            needs = house.needsOf(room);
            int ofRoom = house.membersOf(room);
            members = Math.min(MOST_PEOPLE, Integer.bitCount(ofRoom));
            findSets(house, ofRoom);
            int stands = Math.min(STANDS, (needs + 1) * WEARING_STEPS);
            for (int stand = 0; stand < stands; stand++) {
                least[0][stand] = stand / WEARING_STEPS == needs ? 0 : NEVER;
            }
            for (int left = 1; left <= n && left <= MOST_INVITED; left++) {
                for (int stand = 0; stand < stands; stand++) {
                    least[left][stand] = leastOf(left, stand);
                }
            }
        }

        int leastTrouble(int n, int stand) {
            int sum = leastFrom(n, stand);
            return sum < NEVER ? sum : NONE;
        }

        /** Also NONE of an i that is not among the n dinners: the document tells no range of it. */
        int setOfDinner(int n, int i, int stand) {
            if (i < 0 || i >= n || leastTrouble(n, stand) == NONE) {
                return NONE;
            }
            int now = stand;
            for (int d = 0; d < i; d++) {
                now = behind(now, firstChoice(n - d, now));
            }
            return setOf[firstChoice(n - i, now)];
        }

        /**
         * Only how many of the room come changes its carpet; so of the sets with as many
         * of them no other than the first of least trouble is ever chosen.
         */
        private void findSets(House house, int ofRoom) {
            for (int come = 0; come <= MOST_PEOPLE; come++) {
                troubleOf[come] = NEVER;
                setOf[come] = 0;
            }
            int everyone = house.everyone();
            for (int those = 0; those <= everyone; those++) {
                int come = Integer.bitCount(those & ofRoom);
                int sum = house.troubleIf(those);
                if (come <= MOST_PEOPLE && sum < troubleOf[come]) {
                    troubleOf[come] = sum;
                    setOf[come] = those;
                }
            }
        }

        private int leastFrom(int left, int stand) {
            boolean known = left >= 0 && left <= MOST_INVITED && stand >= 0 && stand < STANDS;
            return known ? least[left][stand] : NEVER;
        }

        private int leastOf(int left, int stand) {
            int best = NEVER;
            for (int come = 0; come <= members; come++) {
                best = Math.min(best, troubleWith(left, stand, come));
            }
            return best;
        }

        private int troubleWith(int left, int stand, int come) {
            if (come < 0 || come > MOST_PEOPLE) {
                return NEVER;
            }
            return troubleOf[come] + leastFrom(left - 1, behind(stand, come));
        }

        private int behind(int stand, int come) {
            return behindDinner(stand, needs, members - come, come);
        }

        /** How many of the room come in the first set by which the least trouble is kept. */
        private int firstChoice(int left, int stand) {
            int best = leastFrom(left, stand);
            int choice = -1;
            for (int come = 0; come <= members; come++) {
                if (troubleWith(left, stand, come) == best
                        && (choice < 0 || setOf[come] < setOf[choice])) {
                    choice = come;
                }
            }
            return Math.max(0, choice);
        }
    }

    /** What was told of an evening, and who can have been away. */
    private static final class Evening {
        final int[] told = {NONE, NONE, NONE, NONE};

        void forget() {
            for (int colour = 0; colour < COLOURS; colour++) {
                told[colour] = NONE;
            }
        }

        int toldColours() {
            int sum = 0;
            for (int colour = 0; colour < COLOURS; colour++) {
                if (told[colour] != NONE) {
                    sum++;
                }
            }
            return sum;
        }

        int setsThatFit(House house) {
            int sum = 0;
            int everyone = house.everyone();
            for (int away = 0; away <= everyone; away++) {
                if (fits(house, away)) {
                    sum++;
                }
            }
            return sum;
        }

        int surelyAway(House house) {
            boolean some = false;
            int everyone = house.everyone();
            int inAll = everyone;
            for (int away = 0; away <= everyone; away++) {
                if (fits(house, away)) {
                    some = true;
                    inAll &= away;
                }
            }
            return some ? inAll : NONE;
        }

        int surelyCame(House house) {
            boolean some = false;
            int everyone = house.everyone();
            int inSome = 0;
            for (int away = 0; away <= everyone; away++) {
                if (fits(house, away)) {
                    some = true;
                    inSome |= away;
                }
            }
            return some ? everyone & ~inSome : NONE;
        }

        private boolean fits(House house, int away) {
            for (int colour = 0; colour < COLOURS; colour++) {
                if (told[colour] != NONE && told[colour] != wovenOf(house, away, colour)) {
                    return false;
                }
            }
            return true;
        }

        private static int wovenOf(House house, int away, int colour) {
            int sum = 0;
            for (int person = 0; person < house.people; person++) {
                if (house.colourOf[person] == colour) {
                    sum += away >> person & 1;
                }
            }
            return sum;
        }
    }

    /** How likely a carpet is done, as a fraction: ways among all ways, a tenth being one way. */
    private static final class Chances {
        private final long[] now = new long[STANDS];
        private final long[] behind = new long[STANDS];
        /** By how many of the room stay away from one dinner: in how many ways. */
        private final long[] waysOf = new long[MOST_PEOPLE + 1];
        private int members = 0;
        private long allWays = 1L;
        private long doneWays = 0L;

        /** With 5 people and 3 dinners there are 10 to the 15th ways: a long holds them. */
        void reckon(House house, int room, int n, int stand) {
            int needs = house.needsOf(room);
            spread(house, room);
            clear(now);
            if (stand >= 0 && stand < STANDS) {
                now[stand] = 1L;
            }
            allWays = 1L;
            for (int i = 0; i < n && i < MOST_LUCK; i++) {
                goOn(needs);
            }
            doneWays = 0L;
            for (int i = needs * WEARING_STEPS; i >= 0 && i < STANDS && i / WEARING_STEPS == needs; i++) {
                doneWays += now[i];
            }
        }

        long above() {
            return doneWays / commonDivisor();
        }

        long below() {
            return allWays / commonDivisor();
        }

        private void spread(House house, int room) {
            clear(waysOf);
            waysOf[0] = 1L;
            members = 0;
            for (int person = 0; person < house.people; person++) {
                if (house.roomOf[person] == room) {
                    members++;
                    spreadOne(house.tenthsOf[person]);
                }
            }
        }

        private void spreadOne(int tenths) {
            for (int away = MOST_PEOPLE; away > 0; away--) {
                waysOf[away] = waysOf[away] * (10 - tenths) + waysOf[away - 1] * tenths;
            }
            waysOf[0] *= 10 - tenths;
        }

        private void goOn(int needs) {
            clear(behind);
            for (int stand = 0; stand < STANDS; stand++) {
                for (int away = 0; away <= MOST_PEOPLE && now[stand] != 0L; away++) {
                    add(behindDinner(stand, needs, away, members - away), now[stand] * waysOf[away]);
                }
            }
            System.arraycopy(behind, 0, now, 0, STANDS);
            for (int i = 0; i < members; i++) {
                allWays *= 10L;
            }
        }

        private void add(int stand, long ways) {
            if (stand >= 0 && stand < STANDS) {
                behind[stand] += ways;
            }
        }

        private long commonDivisor() {
            long a = allWays;
            long b = doneWays;
            for (int i = 0; i < 200 && b != 0L; i++) {
                long rest = a % b;
                a = b;
                b = rest;
            }
            return Math.max(1L, a);
        }

        private static void clear(long[] row) {
            for (int i = 0; i < row.length; i++) {
                row[i] = 0L;
            }
        }
    }
}
