/** Letters that travel with the dead: a land told in a text, its days, and questions about them. */
public final class FuneralPost {
    public static final int NONE = -1;

    private static final int NO_SUCH = -2;
    private static final int MOST_BYTES = 1600;
    private static final int MOST_VILLAGES = 7;
    private static final int MOST_WAYS = 12;
    private static final int MOST_BIERS = 6;
    private static final int MOST_TOLD_LETTERS = 8;
    private static final int MOST_LETTERS = 10;
    private static final int MOST_ACTS = 40;
    private static final int MOST_HADS = 30;
    private static final int MOST_BARS = 3;
    private static final int BOXES = 3;
    private static final int END_OF_DAYS = 300;
    private static final int LAST_LETTER_DAY = 200;
    private static final int NO_WAY = 1000;

    private final Reader reader;
    private final Course course;
    private final Look look;
    private final State now;
    private final Past past;
    private final Lore lore;
    private final State[] boxes;
    private final boolean[] boxFull;
    private final int[] lying;
    private int lyingCount;
    private Land told;
    private Land spare;

    public FuneralPost() {
        reader = new Reader();
        told = new Land();
        spare = new Land();
        course = new Course(told);
        look = new Look(course);
        now = new State();
        past = new Past();
        lore = new Lore();
        boxes = new State[BOXES];
        for (int i = 0; i < BOXES; i++) {
            boxes[i] = new State();
        }
        boxFull = new boolean[BOXES];
        lying = new int[END_OF_DAYS];
        startAnew();
    }

    public int feed(int a, int b, int c, int d, int e) {
        Tokens tape = reader.tokens;
        if (tape.length + 20 > MOST_BYTES) {
            return NONE;
        }
        tape.putFour(a);
        tape.putFour(b);
        tape.putFour(c);
        tape.putFour(d);
        tape.putFour(e);
        return tape.length;
    }

    public int end(int n) {
        if (n < 0 || n > reader.tokens.length) {
            return NONE;
        }
        reader.tokens.length = n;
        return n;
    }

    public int land() {
        boolean whole = reader.read(spare);
        reader.tokens.length = 0;
        if (!whole) {
            return NONE;
        }
        Land before = told;
        told = spare;
        spare = before;
        startAnew();
        return told.letters;
    }

    public int fault(int what) {
        if (what == 0) {
            return reader.fault;
        }
        return what == 1 ? reader.place : NONE;
    }

    public int bier(int bier, int what) {
        if (!isOneOf(bier, told.biers)) {
            return NO_SUCH;
        }
        int state = now.bierState[bier];
        boolean stands = state == State.STANDING;
        switch (what) {
            case 0:
                return state;
            case 1:
                return now.bierPlace[bier];
            case 2:
                return stands || state == State.UNDERWAY ? now.bierTill[bier] : NONE;
            case 3:
                return now.bierLoad[bier];
            case 4:
                return told.bierHome[bier];
            case 5:
                return stands ? course.restOf(now, bier) : 0;
            default:
                return NO_SUCH;
        }
    }

    public int letter(int letter, int what) {
        if (!isOneOf(letter, now.letters)) {
            return NO_SUCH;
        }
        switch (what) {
            case 0:
                return now.letterPile[letter];
            case 1:
                return now.letterBier[letter];
            case 2:
                return now.letterHome[letter];
            case 3:
                return now.letterGoal[letter];
            case 4:
                return now.letterLast[letter];
            case 5:
                return now.letterWorth[letter];
            case 6:
                return now.letterHanded[letter];
            default:
                return NO_SUCH;
        }
    }

    public int village(int village, int what) {
        if (!isOneOf(village, told.villages)) {
            return NONE;
        }
        switch (what) {
            case 0:
                return now.pileAt(village);
            case 1:
                return now.standingAt(village);
            case 2:
                return course.roads.beside[village];
            default:
                return NONE;
        }
    }

    public int far(int village, int other) {
        if (!isOneOf(village, told.villages) || !isOneOf(other, told.villages)) {
            return NONE;
        }
        return course.roads.distance(village, other);
    }

    public int day() {
        if (now.day >= END_OF_DAYS) {
            return NONE;
        }
        int home = course.goBy(now);
        past.keep(now);
        return home;
    }

    public int post(int village, int goal) {
        if (now.letters >= MOST_LETTERS || !areTwoVillages(village, goal)) {
            return NONE;
        }
        int letter = now.addLetter(village, goal, LAST_LETTER_DAY, 1);
        past.keep(now);
        return letter;
    }

    public boolean hand(int letter, int bier) {
        if (!isOneOf(letter, now.letters) || !isOneOf(bier, told.biers)) {
            return false;
        }
        int village = now.letterPile[letter];
        if (village == NONE || now.standsIn(bier) != village || now.bierLoad[bier] >= told.bierHolds[bier]) {
            return false;
        }
        now.putInBier(letter, bier);
        past.keep(now);
        return true;
    }

    public int take(int letter) {
        if (!isOneOf(letter, now.letters)) {
            return NONE;
        }
        int bier = now.letterBier[letter];
        int village = now.standsIn(bier);
        if (village == NONE) {
            return NONE;
        }
        now.putInPile(letter, village);
        past.keep(now);
        return bier;
    }

    public int close(int way) {
        if (!isOneOf(way, told.ways)) {
            return NONE;
        }
        now.closed ^= 1 << way;
        course.roads.lay(told, now.closed);
        past.keep(now);
        return (now.closed >> way) & 1;
    }

    public boolean undo() {
        if (past.undoable() == 0) {
            return false;
        }
        goOnFrom(past.stepBack());
        return true;
    }

    public boolean redo() {
        if (past.redoable() == 0) {
            return false;
        }
        goOnFrom(past.stepOn());
        return true;
    }

    public int comes(int letter) {
        if (!isOneOf(letter, now.letters)) {
            return NONE;
        }
        return look.runOut(now).letterHome[letter];
    }

    public int late() {
        State then = look.runOut(now);
        int set = 0;
        for (int i = 0; i < then.letters; i++) {
            if (!then.isInTime(i)) {
                set |= 1 << i;
            }
        }
        return set;
    }

    public int worth() {
        State then = look.runOut(now);
        int sum = 0;
        for (int i = 0; i < then.letters; i++) {
            if (then.isInTime(i)) {
                sum += then.letterWorth[i];
            }
        }
        return sum;
    }

    public int stuck() {
        State then = look.runOut(now);
        int set = 0;
        for (int i = 0; i < now.letters; i++) {
            boolean stays = then.letterHome[i] == NONE && then.letterHanded[i] == now.letterHanded[i];
            if (now.letterPile[i] != NONE && stays) {
                set |= 1 << i;
            }
        }
        return set;
    }

    public int meets(int bier, int other, int what) {
        if (!areTwoBiers(bier, other) || !look.findMeeting(now, bier, other)) {
            return NONE;
        }
        if (what == 0) {
            return look.meetingDay;
        }
        return what == 1 ? look.meetingVillage : NONE;
    }

    public int buried(int bier) {
        if (!isOneOf(bier, told.biers)) {
            return NONE;
        }
        if (now.bierState[bier] == State.BURIED) {
            return now.day;
        }
        State then = look.runOut(now);
        return then.bierState[bier] == State.BURIED ? then.bierTill[bier] : NONE;
    }

    public int swap(int bier, int other, int what) {
        if (!areTwoBiers(bier, other)) {
            return NONE;
        }
        int village = now.standsIn(bier);
        if (village == NONE || now.standsIn(other) != village) {
            return NONE;
        }
        look.findSwap(now, bier, other);
        switch (what) {
            case 0:
                return look.swapWorth;
            case 1:
                return look.swapFirst;
            case 2:
                return look.swapOther;
            default:
                return NONE;
        }
    }

    public int cover(int set, int what) {
        if (set < 0 || set >= 1 << told.villages) {
            return NONE;
        }
        int best = NONE;
        int fewest = MOST_BIERS + 1;
        for (int biers = 0; biers < 1 << told.biers; biers++) {
            int count = Integer.bitCount(biers);
            if (count < fewest && (set & ~passedBy(biers)) == 0) {
                best = biers;
                fewest = count;
            }
        }
        return countOrSet(best, what);
    }

    public int soon(int village, int other) {
        if (!isOneOf(village, told.villages) || !isOneOf(other, told.villages)) {
            return NONE;
        }
        look.spread(now, village);
        return look.soonDay[other];
    }

    public int heard(int village) {
        if (!isOneOf(village, told.villages)) {
            return NONE;
        }
        look.spread(now, village);
        int last = NONE;
        for (int v = 0; v < told.villages; v++) {
            last = Math.max(last, look.soonDay[v]);
        }
        return last;
    }

    public int deaf(int village) {
        if (!isOneOf(village, told.villages)) {
            return NONE;
        }
        look.spread(now, village);
        int set = 0;
        for (int v = 0; v < told.villages; v++) {
            if (look.soonDay[v] == NONE) {
                set |= 1 << v;
            }
        }
        return set;
    }

    public int bars(int village, int other, int what) {
        if (!areTwoVillages(village, other)) {
            return NONE;
        }
        int best = NONE;
        int fewest = MOST_BARS + 1;
        for (int ways = 0; ways < 1 << told.ways; ways++) {
            int count = Integer.bitCount(ways);
            if (count < fewest && (ways & now.closed) == 0
                    && (told.reachedFrom(village, now.closed | ways) >> other & 1) == 0) {
                best = ways;
                fewest = count;
            }
        }
        return countOrSet(best, what);
    }

    public int trace(int village, int goal) {
        lyingCount = 0;
        if (!areTwoVillages(village, goal)) {
            return NONE;
        }
        int day = look.follow(now, village, goal);
        if (day != NONE) {
            System.arraycopy(look.route, 0, lying, 0, lying.length);
            lyingCount = look.routeLength;
        }
        return day;
    }

    public int lies(int i) {
        return isOneOf(i, lyingCount) ? lying[i] : NONE;
    }

    public int had(int bier, boolean is) {
        if (!isOneOf(bier, told.biers) || lore.count >= MOST_HADS) {
            return NONE;
        }
        return lore.tell(bier, is);
    }

    public boolean untell(int had) {
        return lore.forget(had);
    }

    public int later(int by) {
        if (by < 0 || by > 1000 || lore.time + by > 100000) {
            return NONE;
        }
        lore.time += by;
        return lore.time;
    }

    public int fit(int goal, int k) {
        return isOneOf(goal, told.villages) ? fitting(goal, k) : NONE;
    }

    public int ask(int goal, int what, int k) {
        if (!isOneOf(goal, told.villages)) {
            return NONE;
        }
        int fitting = fitting(goal, k);
        if (fitting == 0) {
            return NONE;
        }
        int best = NONE;
        int fewest = MOST_VILLAGES + 1;
        for (int b = 0; b < told.biers; b++) {
            int yes = look.countHandedInto(b, fitting);
            int left = Math.max(yes, Integer.bitCount(fitting) - yes);
            if (left < fewest) {
                best = b;
                fewest = left;
            }
        }
        if (best == NONE || what == 0) {
            return best;
        }
        return what == 1 ? fewest : NONE;
    }

    public int image(int box) {
        if (!isOneOf(box, BOXES)) {
            return NONE;
        }
        boxes[box].copyFrom(now);
        boxFull[box] = true;
        return now.day;
    }

    public int back(int box) {
        if (!isOneOf(box, BOXES) || !boxFull[box]) {
            return NONE;
        }
        goOnFrom(boxes[box]);
        past.begin(now);
        return now.day;
    }

    public int about(int what) {
        switch (what) {
            case 0:
                return now.letters;
            case 1:
                return told.villages;
            case 2:
                return told.ways;
            case 3:
                return told.biers;
            case 4:
                return now.day;
            case 5:
                return now.closed;
            case 6:
                return now.lettersHome();
            case 7:
                return past.undoable();
            case 8:
                return past.redoable();
            case 9:
                return lore.count;
            case 10:
                return lore.time;
            case 11:
                return reader.tokens.length;
            case 12:
                return told.wait.units;
            case 13:
                return lyingCount;
            default:
                return NONE;
        }
    }

    private static boolean isOneOf(int i, int count) {
        return i >= 0 && i < count;
    }

    private static int cell(int[] row, int i) {
        return i >= 0 && i < row.length ? row[i] : NONE;
    }

    private static int countOrSet(int set, int what) {
        if (set == NONE || what == 1) {
            return set;
        }
        return what == 0 ? Integer.bitCount(set) : NONE;
    }

    private boolean areTwoVillages(int village, int other) {
        return isOneOf(village, told.villages) && isOneOf(other, told.villages) && village != other;
    }

    private boolean areTwoBiers(int bier, int other) {
        return isOneOf(bier, told.biers) && isOneOf(other, told.biers) && bier != other;
    }

    private void startAnew() {
        course.land = told;
        now.begin(told);
        course.roads.lay(told, now.closed);
        past.begin(now);
        lore.count = 0;
        lyingCount = 0;
        for (int i = 0; i < BOXES; i++) {
            boxFull[i] = false;
        }
    }

    private void goOnFrom(State kept) {
        now.copyFrom(kept);
        course.roads.lay(told, now.closed);
    }

    /* A bier that does not stand passes nothing, so it is never among the fewest. */
    private int passedBy(int biers) {
        int set = 0;
        for (int b = 0; b < told.biers; b++) {
            if ((biers >> b & 1) == 1) {
                set |= course.restOf(now, b);
            }
        }
        return set;
    }

    private int fitting(int goal, int k) {
        int must = lore.biersThat(true, k);
        int mustNot = lore.biersThat(false, k);
        int set = 0;
        for (int v = 0; v < told.villages; v++) {
            if (v != goal) {
                look.follow(now, v, goal);
                int into = look.routeSet;
                look.handedFrom[v] = into;
                if ((into & must) == must && (into & mustNot) == 0) {
                    set |= 1 << v;
                }
            }
        }
        return set;
    }

    /** The bytes fed, and the tokens that they make. */
    private static final class Tokens {
        static final int END = 0;
        static final int BAD = 1;
        static final int NAME = 2;
        static final int NUMBER = 3;
        /* The signs and the words have their kinds in the order of these two texts. */
        static final String SIGNS = ";()<>=+-*/%";
        static final int SEMICOLON = 4;
        static final int OPEN = 5;
        static final int CLOSE = 6;
        static final int LESS = 7;
        static final int MORE = 8;
        static final int SAME = 9;
        static final int PLUS = 10;
        static final int MINUS = 11;
        static final int TIMES = 12;
        static final int OVER = 13;
        static final int MODULO = 14;
        static final String WORDS =
                "village way bier letter wait winter from to on holds at by worth or and not day ways rest ";
        static final int VILLAGE = 15;
        static final int WAY = 16;
        static final int BIER = 17;
        static final int LETTER = 18;
        static final int WAIT = 19;
        static final int WINTER = 20;
        static final int FROM = 21;
        static final int TO = 22;
        static final int ON = 23;
        static final int HOLDS = 24;
        static final int AT = 25;
        static final int BY = 26;
        static final int WORTH = 27;
        static final int OR = 28;
        static final int AND = 29;
        static final int NOT = 30;
        static final int DAY = 31;
        static final int WAYS = 32;
        static final int REST = 33;
        static final int WORD_COUNT = 19;
        static final int LONGEST_WORD = 8;
        static final int LONGEST_NUMBER = 4;

        final byte[] bytes = new byte[MOST_BYTES];
        int length;
        final int[] kinds = new int[MOST_BYTES + 1];
        final long[] values = new long[MOST_BYTES + 1];
        final int[] places = new int[MOST_BYTES + 1];
        int count;
        final long[] words = new long[WORD_COUNT];

        Tokens() {
            int word = 0;
            long packed = 0;
            for (int i = 0; i < WORDS.length(); i++) {
                char sign = WORDS.charAt(i);
                if (sign != ' ') {
                    packed = packedWith(packed, sign);
                } else if (word < words.length) {
                    words[word] = packed;
                    word++;
                    packed = 0;
                }
            }
        }

        void putFour(int four) {
            for (int shift = 24; shift >= 0; shift -= 8) {
                if (length >= 0 && length < bytes.length) {
                    bytes[length] = (byte) (four >> shift);
                    length++;
                }
            }
        }

        void split() {
            count = 0;
            int at = 0;
            for (int turn = 0; turn < MOST_BYTES && at < length; turn++) {
                int sign = byteAt(at);
                if (sign == ' ' || sign == '\n') {
                    at++;
                } else if (isLetter(sign)) {
                    at = addWord(at);
                } else if (isDigit(sign)) {
                    at = addNumber(at);
                } else {
                    int which = SIGNS.indexOf((char) sign);
                    add(which < 0 ? BAD : SEMICOLON + which, 0, at);
                    at++;
                }
            }
            add(END, 0, length);
        }

        int kindAt(int token) {
            return token >= 0 && token < count ? kinds[token] : END;
        }

        long valueAt(int token) {
            return token >= 0 && token < count ? values[token] : 0;
        }

        int placeAt(int token) {
            return token >= 0 && token < count ? places[token] : length;
        }

        private int byteAt(int at) {
            return at >= 0 && at < length && at < bytes.length ? bytes[at] & 255 : 0;
        }

        private int addWord(int first) {
            long packed = 0;
            int at = first;
            for (int i = 0; i < MOST_BYTES && isLetter(byteAt(at)); i++) {
                /* A word longer than any token is not looked at, so its wrapping does no harm. */
                packed = packedWith(packed, byteAt(at));
                at++;
            }
            add(at - first > LONGEST_WORD ? BAD : kindOfWord(packed), packed, first);
            return at;
        }

        private int addNumber(int first) {
            int number = 0;
            int at = first;
            for (int i = 0; i < MOST_BYTES && isDigit(byteAt(at)); i++) {
                number = number * 10 + byteAt(at) - '0';
                at++;
            }
            boolean whole = at - first <= LONGEST_NUMBER && !isLetter(byteAt(at));
            add(whole ? NUMBER : BAD, number, first);
            return at;
        }

        private int kindOfWord(long packed) {
            for (int i = 0; i < words.length; i++) {
                if (words[i] == packed) {
                    return VILLAGE + i;
                }
            }
            return NAME;
        }

        private void add(int kind, long value, int place) {
            if (count >= 0 && count < kinds.length) {
                kinds[count] = kind;
                values[count] = value;
                places[count] = place;
                count++;
            }
        }

        private static boolean isLetter(int sign) {
            return sign >= 'a' && sign <= 'z';
        }

        private static boolean isDigit(int sign) {
            return sign >= '0' && sign <= '9';
        }

        private static long packedWith(long packed, int sign) {
            return packed * 27 + sign - 'a' + 1;
        }
    }

    /** The names of one sort, in the order in which they were told. */
    private static final class Names {
        final long[] names;
        int count;

        Names(int most) {
            names = new long[Math.max(most, 0)];
        }

        boolean isFull() {
            return count >= names.length;
        }

        int find(long name) {
            for (int i = 0; i < count; i++) {
                if (names[i] == name) {
                    return i;
                }
            }
            return NONE;
        }

        void add(long name) {
            if (count >= 0 && count < names.length) {
                names[count] = name;
                count++;
            }
        }
    }

    /** Reads the text of a land; stops at its first fault. */
    private static final class Reader {
        static final int NO_TOKEN = 1;
        static final int MISPLACED = 2;
        static final int TOLD_ALREADY = 3;
        static final int BAD_NUMBER = 4;
        static final int UNKNOWN = 5;
        static final int MOST_WITHIN = 6;
        static final int LEVEL_OR = 0;
        static final int LEVEL_AND = 1;
        static final int LEVEL_ONE = 2;
        static final int LEVEL_SUM = 3;
        static final int LEVEL_TERM = 4;

        final Tokens tokens = new Tokens();
        final Names villageNames = new Names(MOST_VILLAGES);
        final Names bierNames = new Names(MOST_BIERS);
        final Names letterNames = new Names(MOST_TOLD_LETTERS);
        Land land;
        boolean waitTold;
        boolean winterTold;
        int at;
        int fault;
        int place = NONE;

        boolean read(Land draft) {
            land = draft;
            land.clear();
            villageNames.count = 0;
            bierNames.count = 0;
            letterNames.count = 0;
            waitTold = false;
            winterTold = false;
            at = 0;
            fault = 0;
            place = NONE;
            tokens.split();
            for (int i = 0; i <= MOST_BYTES && fault == 0 && !sees(Tokens.END); i++) {
                readLine();
            }
            return fault == 0;
        }

        private void readLine() {
            int word = tokens.kindAt(at);
            if (!mayBegin(word)) {
                fail(MISPLACED);
                return;
            }
            at++;
            switch (word) {
                case Tokens.VILLAGE:
                    readNewName(villageNames);
                    land.villages = villageNames.count;
                    break;
                case Tokens.WAY:
                    readWay();
                    break;
                case Tokens.BIER:
                    readBier();
                    break;
                case Tokens.LETTER:
                    readLetter();
                    break;
                case Tokens.WAIT:
                    waitTold = true;
                    readFormula(LEVEL_OR, 0);
                    break;
                default:
                    readWinter();
                    break;
            }
            want(Tokens.SEMICOLON);
        }

        private boolean mayBegin(int word) {
            switch (word) {
                case Tokens.VILLAGE:
                    return !villageNames.isFull();
                case Tokens.WAY:
                    return land.ways < MOST_WAYS;
                case Tokens.BIER:
                    return !bierNames.isFull();
                case Tokens.LETTER:
                    return !letterNames.isFull();
                case Tokens.WAIT:
                    return !waitTold;
                case Tokens.WINTER:
                    return !winterTold;
                default:
                    return false;
            }
        }

        private void readWay() {
            int from = readVillage(NONE);
            int second = at;
            int to = readVillage(from);
            if (fault == 0 && land.hasWay(from, to)) {
                at = second;
                fail(TOLD_ALREADY);
            }
            int days = readNumber(1, 9);
            if (fault == 0) {
                land.addWay(from, to, days);
            }
        }

        private void readBier() {
            readNewName(bierNames);
            want(Tokens.FROM);
            int from = readVillage(NONE);
            want(Tokens.TO);
            int home = readVillage(from);
            want(Tokens.ON);
            int start = readNumber(0, 60);
            int holds = 2;
            if (sees(Tokens.HOLDS)) {
                at++;
                holds = readNumber(1, 9);
            }
            if (fault == 0) {
                land.addBier(from, home, start, holds);
            }
        }

        private void readLetter() {
            readNewName(letterNames);
            want(Tokens.AT);
            int village = readVillage(NONE);
            want(Tokens.TO);
            int goal = readVillage(village);
            int last = LAST_LETTER_DAY;
            if (sees(Tokens.BY)) {
                at++;
                last = readNumber(0, LAST_LETTER_DAY);
            }
            int worth = 1;
            if (sees(Tokens.WORTH)) {
                at++;
                worth = readNumber(1, 9);
            }
            if (fault == 0) {
                land.addLetter(village, goal, last, worth);
            }
        }

        private void readWinter() {
            winterTold = true;
            land.winterFirst = readNumber(0, LAST_LETTER_DAY);
            want(Tokens.TO);
            land.winterLast = readNumber(land.winterFirst, LAST_LETTER_DAY);
        }

        private void readFormula(int level, int within) {
            if (level > LEVEL_TERM) {
                readUnit(within);
            } else if (level == LEVEL_ONE && sees(Tokens.NOT)) {
                readNot(within);
            } else {
                readFormula(level + 1, within);
                int most = level == LEVEL_ONE ? 1 : MOST_BYTES;
                for (int i = 0; i < most && fault == 0 && isOperator(tokens.kindAt(at), level); i++) {
                    int operator = tokens.kindAt(at);
                    at++;
                    readFormula(level + 1, within);
                    land.wait.add(-operator);
                }
            }
        }

        private void readNot(int within) {
            if (within > MOST_WITHIN) {
                fail(MISPLACED);
                return;
            }
            at++;
            readFormula(LEVEL_ONE, within + 1);
            land.wait.add(-Tokens.NOT);
        }

        private void readUnit(int within) {
            int kind = tokens.kindAt(at);
            boolean open = kind == Tokens.OPEN;
            boolean leaf = kind == Tokens.NUMBER || kind == Tokens.DAY || kind == Tokens.HOLDS
                    || kind == Tokens.WAYS || kind == Tokens.REST;
            boolean tooDeep = open && within > MOST_WITHIN;
            if (fault != 0 || !(open || leaf) || tooDeep || land.wait.isFull()) {
                fail(MISPLACED);
                return;
            }
            land.wait.units++;
            int value = (int) tokens.valueAt(at);
            at++;
            if (open) {
                readFormula(LEVEL_OR, within + 1);
                want(Tokens.CLOSE);
            } else {
                land.wait.add(kind == Tokens.NUMBER ? value : -kind);
            }
        }

        private static boolean isOperator(int kind, int level) {
            switch (level) {
                case LEVEL_OR:
                    return kind == Tokens.OR;
                case LEVEL_AND:
                    return kind == Tokens.AND;
                case LEVEL_ONE:
                    return kind == Tokens.LESS || kind == Tokens.MORE || kind == Tokens.SAME;
                case LEVEL_SUM:
                    return kind == Tokens.PLUS || kind == Tokens.MINUS;
                default:
                    return kind == Tokens.TIMES || kind == Tokens.OVER || kind == Tokens.MODULO;
            }
        }

        private boolean sees(int kind) {
            return fault == 0 && tokens.kindAt(at) == kind;
        }

        private void want(int kind) {
            if (sees(kind)) {
                at++;
            } else {
                fail(MISPLACED);
            }
        }

        private void readNewName(Names names) {
            if (!sees(Tokens.NAME)) {
                fail(MISPLACED);
            } else if (names.find(tokens.valueAt(at)) != NONE) {
                fail(TOLD_ALREADY);
            } else {
                names.add(tokens.valueAt(at));
                at++;
            }
        }

        private int readVillage(int first) {
            if (!sees(Tokens.NAME)) {
                fail(MISPLACED);
                return NONE;
            }
            int village = villageNames.find(tokens.valueAt(at));
            if (village == NONE) {
                fail(UNKNOWN);
            } else if (village == first) {
                fail(TOLD_ALREADY);
            } else {
                at++;
            }
            return village;
        }

        private int readNumber(int least, int most) {
            if (!sees(Tokens.NUMBER)) {
                fail(MISPLACED);
                return least;
            }
            int number = (int) tokens.valueAt(at);
            if (number < least || number > most) {
                fail(BAD_NUMBER);
                return least;
            }
            at++;
            return number;
        }

        private void fail(int what) {
            if (fault == 0) {
                fault = tokens.kindAt(at) == Tokens.BAD ? NO_TOKEN : what;
                place = tokens.placeAt(at);
            }
        }
    }

    /** What a text told; never changed by what happens. */
    private static final class Land {
        int villages;
        int ways;
        final int[] wayFrom = new int[MOST_WAYS];
        final int[] wayTo = new int[MOST_WAYS];
        final int[] wayDays = new int[MOST_WAYS];
        int biers;
        final int[] bierFrom = new int[MOST_BIERS];
        final int[] bierHome = new int[MOST_BIERS];
        final int[] bierStart = new int[MOST_BIERS];
        final int[] bierHolds = new int[MOST_BIERS];
        int letters;
        final int[] letterAt = new int[MOST_TOLD_LETTERS];
        final int[] letterGoal = new int[MOST_TOLD_LETTERS];
        final int[] letterLast = new int[MOST_TOLD_LETTERS];
        final int[] letterWorth = new int[MOST_TOLD_LETTERS];
        int winterFirst;
        /* Ahead of the first day while no winter is told. */
        int winterLast = NONE;
        final Formula wait = new Formula();

        void clear() {
            villages = 0;
            ways = 0;
            biers = 0;
            letters = 0;
            winterFirst = 0;
            winterLast = NONE;
            wait.clear();
        }

        boolean hasWay(int village, int other) {
            for (int w = 0; w < ways; w++) {
                if (wayFrom[w] == village && wayTo[w] == other || wayFrom[w] == other && wayTo[w] == village) {
                    return true;
                }
            }
            return false;
        }

        void addWay(int from, int to, int days) {
            if (ways < MOST_WAYS) {
                wayFrom[ways] = from;
                wayTo[ways] = to;
                wayDays[ways] = days;
                ways++;
            }
        }

        void addBier(int from, int home, int start, int holds) {
            if (biers < MOST_BIERS) {
                bierFrom[biers] = from;
                bierHome[biers] = home;
                bierStart[biers] = start;
                bierHolds[biers] = holds;
                biers++;
            }
        }

        void addLetter(int village, int goal, int last, int worth) {
            if (letters < MOST_TOLD_LETTERS) {
                letterAt[letters] = village;
                letterGoal[letters] = goal;
                letterLast[letters] = last;
                letterWorth[letters] = worth;
                letters++;
            }
        }

        boolean isWinter(int day) {
            return day >= winterFirst && day <= winterLast;
        }

        /** The villages to which one comes from here by ways that are not shut, as bits. */
        int reachedFrom(int village, int shut) {
            int reached = 1 << village;
            int before = 0;
            for (int round = 0; round < MOST_VILLAGES && before != reached; round++) {
                before = reached;
                for (int w = 0; w < ways; w++) {
                    int ends = 1 << wayFrom[w] | 1 << wayTo[w];
                    if ((shut >> w & 1) == 0 && (reached & ends) != 0) {
                        reached |= ends;
                    }
                }
            }
            return reached;
        }
    }

    /** How long a bier waits, as steps on a stack: a number, or the token's kind below 0. */
    private static final class Formula {
        /* The document also says 60 in all, but there is one formula alone. */
        static final int MOST_UNITS = 30;
        /* Each unit, an operator behind each, and as many nots ahead of each as may be. */
        static final int MOST_STEPS = 9 * MOST_UNITS;

        final int[] steps = new int[MOST_STEPS];
        final int[] stack = new int[MOST_UNITS];
        int length;
        int units;

        void clear() {
            length = 0;
            units = 0;
        }

        boolean isFull() {
            return units >= MOST_UNITS;
        }

        void add(int step) {
            if (length >= 0 && length < steps.length) {
                steps[length] = step;
                length++;
            }
        }

        int value(int day, int holds, int ways, int rest) {
            int top = 0;
            for (int i = 0; i < length; i++) {
                int step = steps[i];
                switch (-step) {
                    case Tokens.DAY:
                        top = push(top, day);
                        break;
                    case Tokens.HOLDS:
                        top = push(top, holds);
                        break;
                    case Tokens.WAYS:
                        top = push(top, ways);
                        break;
                    case Tokens.REST:
                        top = push(top, rest);
                        break;
                    case Tokens.NOT:
                        if (top > 0) {
                            stack[top - 1] = stack[top - 1] == 0 ? 1 : 0;
                        }
                        break;
                    default:
                        if (step >= 0) {
                            top = push(top, step);
                        } else if (top > 1) {
                            top--;
                            stack[top - 1] = join(-step, stack[top - 1], stack[top]);
                        }
                        break;
                }
            }
            return top > 0 ? stack[0] : 0;
        }

        private int push(int top, int value) {
            if (top < 0 || top >= stack.length) {
                return top;
            }
            stack[top] = value;
            return top + 1;
        }

        private static int join(int operator, int left, int right) {
            switch (operator) {
                case Tokens.OR:
                    return left != 0 || right != 0 ? 1 : 0;
                case Tokens.AND:
                    return left != 0 && right != 0 ? 1 : 0;
                case Tokens.LESS:
                    return left < right ? 1 : 0;
                case Tokens.MORE:
                    return left > right ? 1 : 0;
                case Tokens.SAME:
                    return left == right ? 1 : 0;
                case Tokens.PLUS:
                    return left + right;
                case Tokens.MINUS:
                    return left - right;
                case Tokens.TIMES:
                    return left * right;
                case Tokens.OVER:
                    return right == 0 ? 0 : left / right;
                default:
                    return right == 0 ? 0 : left % right;
            }
        }
    }

    /** What follows from the open ways: how far, where to next, what is passed. */
    private static final class Roads {
        final int[][] far = new int[MOST_VILLAGES][MOST_VILLAGES];
        final int[][] days = new int[MOST_VILLAGES][MOST_VILLAGES];
        final int[][] next = new int[MOST_VILLAGES][MOST_VILLAGES];
        final int[] beside = new int[MOST_VILLAGES];

        void lay(Land land, int closed) {
            for (int v = 0; v < MOST_VILLAGES; v++) {
                beside[v] = 0;
                for (int u = 0; u < MOST_VILLAGES; u++) {
                    far[v][u] = v == u ? 0 : NO_WAY;
                    days[v][u] = 0;
                }
            }
            for (int w = 0; w < land.ways; w++) {
                int from = land.wayFrom[w];
                int to = land.wayTo[w];
                if ((closed >> w & 1) == 0 && isOneOf(from, MOST_VILLAGES) && isOneOf(to, MOST_VILLAGES)) {
                    layWay(from, to, land.wayDays[w]);
                    layWay(to, from, land.wayDays[w]);
                }
            }
            shorten();
            for (int v = 0; v < MOST_VILLAGES; v++) {
                for (int home = 0; home < MOST_VILLAGES; home++) {
                    next[v][home] = findNext(v, home);
                }
            }
        }

        int distance(int village, int other) {
            boolean known = village >= 0 && village < MOST_VILLAGES && other >= 0 && other < MOST_VILLAGES;
            return known ? far[village][other] : NO_WAY;
        }

        int waysAt(int village) {
            return isOneOf(village, MOST_VILLAGES) ? Integer.bitCount(beside[village]) : 0;
        }

        int daysOfWay(int village, int other) {
            boolean known = village >= 0 && village < MOST_VILLAGES && other >= 0 && other < MOST_VILLAGES;
            return known ? days[village][other] : 0;
        }

        /** Where one goes from a village on the way home; NONE if one is there, or can't come there. */
        int nextOf(int village, int home) {
            boolean known = village >= 0 && village < MOST_VILLAGES && home >= 0 && home < MOST_VILLAGES;
            return known ? next[village][home] : NONE;
        }

        /** The villages that one passes on the way home, this one and the home with them, as bits. */
        int passed(int village, int home) {
            int set = 0;
            int v = village;
            for (int i = 0; i < MOST_VILLAGES && v != NONE; i++) {
                set |= 1 << v;
                v = nextOf(v, home);
            }
            return set;
        }

        /** The least distance to the goal from any village passed on the way home. */
        int nearest(int village, int home, int goal) {
            int least = NO_WAY;
            int v = village;
            for (int i = 0; i < MOST_VILLAGES && v != NONE; i++) {
                least = Math.min(least, distance(v, goal));
                v = nextOf(v, home);
            }
            return least;
        }

        private void layWay(int from, int to, int length) {
            far[from][to] = length;
            days[from][to] = length;
            beside[from] |= 1 << to;
        }

        private void shorten() {
            for (int over = 0; over < MOST_VILLAGES; over++) {
                for (int v = 0; v < MOST_VILLAGES; v++) {
                    for (int u = 0; u < MOST_VILLAGES; u++) {
                        far[v][u] = Math.min(far[v][u], far[v][over] + far[over][u]);
                    }
                }
            }
        }

        private int findNext(int village, int home) {
            if (village == home || far[village][home] >= NO_WAY) {
                return NONE;
            }
            int best = NONE;
            int least = NO_WAY;
            for (int v = 0; v < MOST_VILLAGES; v++) {
                int whole = days[village][v] + far[v][home];
                if ((beside[village] >> v & 1) == 1 && whole < least) {
                    best = v;
                    least = whole;
                }
            }
            return best;
        }
    }

    /** Where all is on a day. */
    private static final class State {
        static final int NOT_STARTED = 0;
        static final int STANDING = 1;
        static final int UNDERWAY = 2;
        static final int BURIED = 3;

        int day;
        int closed;
        int letters;
        final int[] bierState = new int[MOST_BIERS];
        final int[] bierPlace = new int[MOST_BIERS];
        /* Till when it stays; when it is to be there; when it was buried. */
        final int[] bierTill = new int[MOST_BIERS];
        final int[] bierLoad = new int[MOST_BIERS];
        final int[] letterPile = new int[MOST_LETTERS];
        final int[] letterBier = new int[MOST_LETTERS];
        final int[] letterHome = new int[MOST_LETTERS];
        final int[] letterGoal = new int[MOST_LETTERS];
        final int[] letterLast = new int[MOST_LETTERS];
        final int[] letterWorth = new int[MOST_LETTERS];
        final int[] letterHanded = new int[MOST_LETTERS];

        void begin(Land land) {
            day = 0;
            closed = 0;
            letters = 0;
            for (int b = 0; b < MOST_BIERS; b++) {
                bierState[b] = NOT_STARTED;
                bierPlace[b] = land.bierFrom[b];
                bierTill[b] = NONE;
                bierLoad[b] = 0;
            }
            for (int i = 0; i < land.letters; i++) {
                addLetter(land.letterAt[i], land.letterGoal[i], land.letterLast[i], land.letterWorth[i]);
            }
        }

        void copyFrom(State other) {
            day = other.day;
            closed = other.closed;
            letters = other.letters;
            System.arraycopy(other.bierState, 0, bierState, 0, MOST_BIERS);
            System.arraycopy(other.bierPlace, 0, bierPlace, 0, MOST_BIERS);
            System.arraycopy(other.bierTill, 0, bierTill, 0, MOST_BIERS);
            System.arraycopy(other.bierLoad, 0, bierLoad, 0, MOST_BIERS);
            System.arraycopy(other.letterPile, 0, letterPile, 0, MOST_LETTERS);
            System.arraycopy(other.letterBier, 0, letterBier, 0, MOST_LETTERS);
            System.arraycopy(other.letterHome, 0, letterHome, 0, MOST_LETTERS);
            System.arraycopy(other.letterGoal, 0, letterGoal, 0, MOST_LETTERS);
            System.arraycopy(other.letterLast, 0, letterLast, 0, MOST_LETTERS);
            System.arraycopy(other.letterWorth, 0, letterWorth, 0, MOST_LETTERS);
            System.arraycopy(other.letterHanded, 0, letterHanded, 0, MOST_LETTERS);
        }

        int addLetter(int village, int goal, int last, int worth) {
            int letter = letters;
            if (!isOneOf(letter, MOST_LETTERS)) {
                return NONE;
            }
            letterPile[letter] = village;
            letterBier[letter] = NONE;
            letterHome[letter] = NONE;
            letterGoal[letter] = goal;
            letterLast[letter] = last;
            letterWorth[letter] = worth;
            letterHanded[letter] = 0;
            letters++;
            return letter;
        }

        /** One letter alone, and all biers empty. */
        void leaveOneLetter(int village, int goal) {
            letters = 0;
            for (int b = 0; b < MOST_BIERS; b++) {
                bierLoad[b] = 0;
            }
            addLetter(village, goal, LAST_LETTER_DAY, 1);
        }

        int standsIn(int bier) {
            boolean known = bier >= 0 && bier < MOST_BIERS;
            return known && bierState[bier] == STANDING ? bierPlace[bier] : NONE;
        }

        /** The village in which the letter can be handed on: that of its pile, or of its bier if that stands. */
        int spotOf(int letter) {
            int pile = letterPile[letter];
            return pile != NONE ? pile : standsIn(letterBier[letter]);
        }

        int pileAt(int village) {
            int set = 0;
            for (int i = 0; i < letters; i++) {
                if (letterPile[i] == village) {
                    set |= 1 << i;
                }
            }
            return set;
        }

        int standingAt(int village) {
            int set = 0;
            for (int b = 0; b < MOST_BIERS; b++) {
                if (standsIn(b) == village) {
                    set |= 1 << b;
                }
            }
            return set;
        }

        int lettersIn(int bier) {
            int set = 0;
            for (int i = 0; i < letters; i++) {
                if (letterBier[i] == bier) {
                    set |= 1 << i;
                }
            }
            return set;
        }

        int lettersHome() {
            int set = 0;
            for (int i = 0; i < letters; i++) {
                if (letterHome[i] != NONE) {
                    set |= 1 << i;
                }
            }
            return set;
        }

        boolean isInTime(int letter) {
            return letterHome[letter] != NONE && letterHome[letter] <= letterLast[letter];
        }

        void putInPile(int letter, int village) {
            comeOutOf(letterBier[letter]);
            letterBier[letter] = NONE;
            letterPile[letter] = village;
        }

        void putInBier(int letter, int bier) {
            if (letterBier[letter] != bier && isOneOf(bier, MOST_BIERS)) {
                comeOutOf(letterBier[letter]);
                letterPile[letter] = NONE;
                letterBier[letter] = bier;
                letterHanded[letter]++;
                bierLoad[bier]++;
            }
        }

        void putHome(int letter) {
            putInPile(letter, NONE);
            letterHome[letter] = day;
        }

        private void comeOutOf(int bier) {
            if (bier >= 0 && bier < MOST_BIERS) {
                bierLoad[bier]--;
            }
        }
    }

    /** How a day goes by. */
    private static final class Course {
        static final int LONGEST_STAY = 9;

        final Roads roads = new Roads();
        Land land;

        Course(Land first) {
            land = first;
        }

        int goBy(State state) {
            arrive(state);
            int home = bringHome(state);
            handOn(state);
            depart(state);
            return home;
        }

        void arrive(State state) {
            for (int b = 0; b < land.biers; b++) {
                int before = state.bierState[b];
                boolean starts = before == State.NOT_STARTED && land.bierStart[b] == state.day;
                boolean comesThere = before == State.UNDERWAY && state.bierTill[b] == state.day;
                if (starts || comesThere) {
                    if (state.bierPlace[b] == land.bierHome[b]) {
                        bury(state, b);
                    } else {
                        state.bierState[b] = State.STANDING;
                        state.bierTill[b] = state.day + stay(state, b);
                    }
                }
            }
        }

        void depart(State state) {
            boolean winter = land.isWinter(state.day);
            for (int b = 0; b < land.biers; b++) {
                int village = state.standsIn(b);
                int next = roads.nextOf(village, land.bierHome[b]);
                if (!winter && next != NONE && state.bierTill[b] <= state.day) {
                    state.bierState[b] = State.UNDERWAY;
                    state.bierTill[b] = state.day + roads.daysOfWay(village, next);
                    state.bierPlace[b] = next;
                }
            }
            state.day++;
        }

        /** Whether no bier will ever move again; then one day more settles the letters, too. */
        boolean isStill(State state) {
            for (int b = 0; b < land.biers; b++) {
                int village = state.standsIn(b);
                boolean stuckThere = village != NONE && roads.nextOf(village, land.bierHome[b]) == NONE;
                if (state.bierState[b] != State.BURIED && !stuckThere) {
                    return false;
                }
            }
            return true;
        }

        int restOf(State state, int bier) {
            return roads.passed(state.standsIn(bier), cell(land.bierHome, bier));
        }

        private int stay(State state, int bier) {
            int village = state.bierPlace[bier];
            int rest = roads.distance(village, land.bierHome[bier]);
            int days = land.wait.value(state.day, land.bierHolds[bier], roads.waysAt(village), rest);
            return Math.max(0, Math.min(LONGEST_STAY, days));
        }

        private static void bury(State state, int bier) {
            state.bierState[bier] = State.BURIED;
            state.bierTill[bier] = state.day;
            for (int i = 0; i < state.letters; i++) {
                if (state.letterBier[i] == bier) {
                    state.putInPile(i, state.bierPlace[bier]);
                }
            }
        }

        private static int bringHome(State state) {
            int count = 0;
            for (int i = 0; i < state.letters; i++) {
                if (state.spotOf(i) == state.letterGoal[i]) {
                    state.putHome(i);
                    count++;
                }
            }
            return count;
        }

        /* A bier stands in one village alone, so going letter by letter is going village by village. */
        private void handOn(State state) {
            for (int i = 0; i < state.letters; i++) {
                int village = state.spotOf(i);
                if (village != NONE) {
                    int bier = bestBier(state, i, village);
                    if (bier == NONE) {
                        state.putInPile(i, village);
                    } else {
                        state.putInBier(i, bier);
                    }
                }
            }
        }

        private int bestBier(State state, int letter, int village) {
            int goal = state.letterGoal[letter];
            int inside = state.letterBier[letter];
            int best = NONE;
            int least = roads.distance(village, goal);
            for (int b = 0; b < land.biers; b++) {
                boolean hasRoom = b == inside || state.bierLoad[b] < land.bierHolds[b];
                if (state.standsIn(b) == village && hasRoom) {
                    int near = roads.nearest(village, land.bierHome[b], goal);
                    if (near < least || near == least && best != NONE && b == inside) {
                        best = b;
                        least = near;
                    }
                }
            }
            return best;
        }
    }

    /** Looks ahead from a state, and leaves that as it is. */
    private static final class Look {
        final Course course;
        final State ahead = new State();
        final int[] soonDay = new int[MOST_VILLAGES];
        final int[] route = new int[END_OF_DAYS];
        int routeLength;
        int routeSet;
        final int[] handedFrom = new int[MOST_VILLAGES];
        int meetingDay;
        int meetingVillage;
        final int[][] standDay = new int[MOST_BIERS][MOST_VILLAGES];
        final int[][] gain = new int[2][MOST_LETTERS];
        int swapWorth;
        int swapFirst;
        int swapOther;

        Look(Course whole) {
            course = whole;
        }

        /** How all is when no day can go by any more. */
        State runOut(State now) {
            ahead.copyFrom(now);
            for (int i = 0; i < END_OF_DAYS && ahead.day < END_OF_DAYS; i++) {
                course.goBy(ahead);
                if (course.isStill(ahead)) {
                    break;
                }
            }
            return ahead;
        }

        /** The day on which a letter alone comes home; its biers are in the route then. */
        int follow(State now, int village, int goal) {
            ahead.copyFrom(now);
            ahead.leaveOneLetter(village, goal);
            routeLength = 0;
            routeSet = 0;
            for (int i = 0; i < END_OF_DAYS && ahead.day < END_OF_DAYS; i++) {
                course.goBy(ahead);
                if (ahead.letterHanded[0] > routeLength) {
                    noteBier(ahead.letterBier[0]);
                }
                if (ahead.letterHome[0] != NONE || course.isStill(ahead)) {
                    break;
                }
            }
            return ahead.letterHome[0];
        }

        int countHandedInto(int bier, int villages) {
            int count = 0;
            for (int v = 0; v < MOST_VILLAGES; v++) {
                if ((villages >> v & 1) == 1 && (handedFrom[v] >> bier & 1) == 1) {
                    count++;
                }
            }
            return count;
        }

        boolean findMeeting(State now, int bier, int other) {
            ahead.copyFrom(now);
            for (int i = 0; i < END_OF_DAYS && ahead.day < END_OF_DAYS; i++) {
                course.arrive(ahead);
                int village = ahead.standsIn(bier);
                if (village != NONE && ahead.standsIn(other) == village) {
                    meetingDay = ahead.day;
                    meetingVillage = village;
                    return true;
                }
                course.depart(ahead);
                if (course.isStill(ahead)) {
                    break;
                }
            }
            return false;
        }

        /** The first day on which a letter from here could be in each village. */
        void spread(State now, int village) {
            for (int v = 0; v < MOST_VILLAGES; v++) {
                soonDay[v] = NONE;
            }
            if (isOneOf(village, MOST_VILLAGES)) {
                soonDay[village] = now.day;
            }
            ahead.copyFrom(now);
            int carriers = 0;
            for (int i = 0; i < END_OF_DAYS && ahead.day < END_OF_DAYS; i++) {
                course.arrive(ahead);
                layDown(carriers);
                carriers |= takeUp();
                course.depart(ahead);
                if (course.isStill(ahead)) {
                    break;
                }
            }
        }

        /** Which letters each of both should have: all ways of sharing them out are tried. */
        void findSwap(State now, int bier, int other) {
            int all = now.lettersIn(bier) | now.lettersIn(other);
            watch(now);
            weigh(now, bier, gain[0]);
            weigh(now, other, gain[1]);
            int roomFirst = cell(course.land.bierHolds, bier);
            int roomOther = cell(course.land.bierHolds, other);
            swapWorth = NONE;
            for (int set = 0; set <= all; set++) {
                int left = all & ~set;
                boolean fits = Integer.bitCount(set) <= roomFirst && Integer.bitCount(left) <= roomOther;
                if ((set & ~all) == 0 && fits) {
                    int worths = sum(gain[0], set) + sum(gain[1], left);
                    if (worths > swapWorth) {
                        swapWorth = worths;
                        swapFirst = set;
                        swapOther = left;
                    }
                }
            }
        }

        private void noteBier(int bier) {
            if (isOneOf(routeLength, route.length) && isOneOf(bier, MOST_BIERS)) {
                route[routeLength] = bier;
                routeLength++;
                routeSet |= 1 << bier;
            }
        }

        private void layDown(int carriers) {
            for (int b = 0; b < MOST_BIERS; b++) {
                boolean isThere = ahead.bierState[b] == State.STANDING || ahead.bierState[b] == State.BURIED;
                int village = ahead.bierPlace[b];
                boolean brings = (carriers >> b & 1) == 1 && isThere;
                if (brings && isOneOf(village, MOST_VILLAGES) && soonDay[village] == NONE) {
                    soonDay[village] = ahead.day;
                }
            }
        }

        private int takeUp() {
            int set = 0;
            for (int b = 0; b < MOST_BIERS; b++) {
                if (cell(soonDay, ahead.standsIn(b)) != NONE) {
                    set |= 1 << b;
                }
            }
            return set;
        }

        /** On which day each bier stands in each village for the first time, its home too. */
        private void watch(State now) {
            for (int b = 0; b < MOST_BIERS; b++) {
                for (int v = 0; v < MOST_VILLAGES; v++) {
                    standDay[b][v] = NONE;
                }
            }
            ahead.copyFrom(now);
            for (int i = 0; i < END_OF_DAYS && ahead.day < END_OF_DAYS; i++) {
                course.arrive(ahead);
                noteStanding();
                course.depart(ahead);
                if (course.isStill(ahead)) {
                    break;
                }
            }
        }

        private void noteStanding() {
            for (int b = 0; b < MOST_BIERS; b++) {
                boolean isThere = ahead.bierState[b] == State.STANDING || ahead.bierState[b] == State.BURIED;
                int village = ahead.bierPlace[b];
                if (isThere && isOneOf(village, MOST_VILLAGES) && standDay[b][village] == NONE) {
                    standDay[b][village] = ahead.day;
                }
            }
        }

        private void weigh(State now, int bier, int[] gains) {
            for (int i = 0; i < gains.length && i < now.letters; i++) {
                int day = isOneOf(bier, MOST_BIERS) ? cell(standDay[bier], now.letterGoal[i]) : NONE;
                gains[i] = day != NONE && day <= now.letterLast[i] ? now.letterWorth[i] : 0;
            }
        }

        private static int sum(int[] gains, int set) {
            int sum = 0;
            for (int i = 0; i < gains.length; i++) {
                if ((set >> i & 1) == 1) {
                    sum += gains[i];
                }
            }
            return sum;
        }
    }

    /** The states that acts led to, in a ring: those behind the present one can be done again. */
    private static final class Past {
        static final int SLOTS = MOST_ACTS + 1;

        final State[] ring = new State[SLOTS];
        int oldest;
        int present;
        int newest;

        Past() {
            for (int i = 0; i < SLOTS; i++) {
                ring[i] = new State();
            }
        }

        void begin(State state) {
            oldest = 0;
            present = 0;
            newest = 0;
            ring[0].copyFrom(state);
        }

        void keep(State state) {
            present++;
            newest = present;
            if (newest - oldest > MOST_ACTS) {
                oldest++;
            }
            slot(present).copyFrom(state);
        }

        int undoable() {
            return present - oldest;
        }

        int redoable() {
            return newest - present;
        }

        State stepBack() {
            present--;
            return slot(present);
        }

        State stepOn() {
            present++;
            return slot(present);
        }

        private State slot(int number) {
            return ring[Math.floorMod(number, SLOTS)];
        }
    }

    /** What was told of a lost letter, with the times at which it was told and untold. */
    private static final class Lore {
        final int[] bier = new int[MOST_HADS];
        final boolean[] had = new boolean[MOST_HADS];
        final int[] toldAt = new int[MOST_HADS];
        final int[] untoldAt = new int[MOST_HADS];
        int count;
        int time;

        int tell(int which, boolean is) {
            int number = count;
            if (!isOneOf(number, MOST_HADS)) {
                return NONE;
            }
            bier[number] = which;
            had[number] = is;
            toldAt[number] = time;
            untoldAt[number] = NONE;
            count++;
            return number;
        }

        boolean forget(int number) {
            if (!isOneOf(number, count) || untoldAt[number] != NONE) {
                return false;
            }
            untoldAt[number] = time;
            return true;
        }

        /** The biers of which it is known at k that they had it, or had it not, as bits. */
        int biersThat(boolean is, int k) {
            int set = 0;
            for (int i = 0; i < count; i++) {
                boolean untold = untoldAt[i] != NONE && untoldAt[i] <= k;
                if (had[i] == is && toldAt[i] <= k && !untold) {
                    set |= 1 << bier[i];
                }
            }
            return set;
        }
    }
}
