/**
 * A picture of sixty four cells that is filled, day by day, with small squares of what people looked at.
 * The document ../shared/DOC.md tells what each call answers; words in capitals there are the names here.
 */
public final class MosaicOfSights {
    public static final int NONE = -1, BAD = -2, STATE = -3, FULL = -4;
    public static final long NO = -4611686018427387904L;

    private static final int NOTHING = -11, OUTSIDE = -12, OTHER_SORT = -13, BELOW_ZERO = -14;
    private static final int NONE_SUCH = -1000, FAULT_AT = -100;

    private static final int CELLS = 64, COLOURS = 4, KINDS = 6, NUMBERS = 10;
    private static final int MOST_PEOPLE = 5, MOST = 99, LAST_DAY = 999;
    private static final int MOST_DAYS = 40, MOST_DAYS_TO_END = 60, MOST_DAYS_TO_WANT = 20, DAYS_OF_CHANCE = 12;
    private static final int MOST_TEXTS = 6, TAPE_SIZE = 160, PARTS = 3;
    private static final int SHEETS = 4, SHEET_SIZE = 40, MOST_TOLD = 20, MOST_SEEDS = 20;
    private static final int BYTES = 0, SHORTS = 1, SORTS = 3;
    private static final long WHOLE = -1L;

    private static final int LOOKER = 0, WIFE = 1, BOY = 2, DEACON = 3, MONK = 4, RAG = 5;
    /** The KIND that each KIND stands under. */
    private static final int[] ABOVE = {NONE, LOOKER, LOOKER, WIFE, BOY, LOOKER};

    /** What set() and told() speak of. */
    private static final int THE_DAY = 0, WANTS = 1, FILLED = 2, IN_BOX = 3, NUMBER = 4, LOOKS_AT = 5, LOOKED = 6,
            GAVE = 7, KIND = 8, NEEDS = 9, GIVES = 10, TURNS = 11;
    /** The greatest value of each of these that set() takes. */
    private static final int[] GREATEST = {LAST_DAY, COLOURS - 1, 1, MOST, NUMBERS - 1, COLOURS - 1, MOST, MOST};

    /** The parts of a TEXT, in the order in which they stand there. */
    private static final int PART_NEEDS = 0, PART_SEES = 1, PART_TURNS = 2;
    private static final String FIRST_TEXT = "needs 2 ; sees day ; turns day + number ;";

    /** Code of a TEXT: 0 and more is a NUMBER, these are NAMES (in the order of the words), then what is done. */
    private static final int SAY_LOOKED = -1, SAY_COLOUR = -2, SAY_NUMBER = -3, SAY_DAY = -4, SAY_FILLED = -5,
            SAY_BOX = -6;
    private static final int DO_MINUS = -11, DO_NOT = -12;
    private static final int DO_OR = -21, DO_AND = -22, DO_LESS = -23, DO_EQUAL = -24, DO_ADD = -25, DO_TAKE = -26,
            DO_TIMES = -27;
    private static final int VALUES_ABOVE = -10, OF_ONE_ABOVE = -20;

    private final World now = new World();
    private final World thought = new World();
    private final World imaged = new World();
    private boolean isImaged = false;
    private final Rules rules = new Rules();
    private final Reader reader = new Reader();
    private final Sheet[] sheets = new Sheet[SHEETS];

    public MosaicOfSights() {
        for (int i = 0; i < SHEETS; i++) {
            sheets[i] = new Sheet();
        }
        for (int i = 0; i < FIRST_TEXT.length(); i++) {
            reader.append(FIRST_TEXT.charAt(i));
        }
        reader.readInto(rules.texts[0]);
        reader.wipe();
        rules.known = 1;
    }

    // ---- the picture, people

    public int set(int what, int of, int v) {
        if (what < THE_DAY || what > GAVE || !isThere(what, of) || v < 0 || v > GREATEST[what]) {
            return BAD;
        }
        int was = now.figure(what, of);
        now.change(what, of, v);
        return was;
    }

    public int person(int kind, int number, int colour) {
        if (!isIn(kind, KINDS) || !isIn(number, NUMBERS) || !isIn(colour, COLOURS)) {
            return BAD;
        }
        return now.welcome(kind, number, colour);
    }

    public int told(int of, int what) {
        if (what < THE_DAY || what > TURNS || !isThere(what, of)) {
            return NONE_SUCH;
        }
        switch (what) {
            case NEEDS:
                return rules.daysNeeded(now, of);
            case GIVES:
                return rules.colourGiven(now, of);
            case TURNS:
                return rules.colourNext(now, of);
            default:
                return now.figure(what, of);
        }
    }

    public long picture(int what) {
        if (isIn(what, COLOURS)) {
            return now.wanting[what];
        }
        return what == COLOURS ? now.filled : NO;
    }

    // ---- texts

    public int feed(int letter) {
        return letter < 0 || letter > 255 ? BAD : reader.append(letter);
    }

    public int text() {
        if (rules.known >= MOST_TEXTS) {
            return FULL;
        }
        int fault = reader.readInto(rules.texts[rules.known]);
        reader.wipe();
        if (fault != NONE) {
            return FAULT_AT - fault;
        }
        rules.known++;
        return rules.known - 1;
    }

    public int force(int text) {
        if (!isIn(text, rules.known)) {
            return BAD;
        }
        int was = now.rule;
        now.rule = text;
        return was;
    }

    // ---- days

    public int day() {
        if (now.today >= LAST_DAY) {
            return STATE;
        }
        rules.passDay(now, NONE);
        return now.filledCells();
    }

    public int run(int one, int n, int what) {
        if (!isIn(one, now.people) || n < 0 || n > MOST_DAYS || what < 0 || what > 4) {
            return BAD;
        }
        think();
        passInThought(n);
        switch (what) {
            case 0:
                return thought.filledCells();
            case 1:
                return thought.squaresInBox();
            case 2:
                return thought.looksAt[one];
            case 3:
                return thought.looked[one];
            default:
                return thought.gave[one];
        }
    }

    public long later(int n) {
        if (n < 0 || n > MOST_DAYS) {
            return NO;
        }
        think();
        passInThought(n);
        return thought.filled;
    }

    public int ends() {
        think();
        for (int n = 0; n <= MOST_DAYS_TO_END; n++) {
            if (thought.filled == WHOLE) {
                return n;
            }
            rules.passDay(thought, NONE);
        }
        return NONE;
    }

    // ---- what would be best

    public int atWhat(int one, int n, int what) {
        if (!isIn(one, now.people) || n < 0 || n > MOST_DAYS || what < 0 || what > 1) {
            return BAD;
        }
        int best = NONE;
        int most = NONE;
        for (int colour = 0; colour < COLOURS; colour++) {
            think();
            thought.looksAt[one] = colour;
            int many = filledBehind(n, NONE);
            if (many > most) {
                most = many;
                best = colour;
            }
        }
        return what == 0 ? best : most;
    }

    public int want(int n, int what) {
        if (n < 1 || n > MOST_DAYS_TO_WANT || what < 0 || what > 1) {
            return BAD;
        }
        think();
        int most = filledBehind(n, NONE);
        int best = NONE;
        // Nobody fills more than a CELL a DAY: once that many are reached, no other wish can be better.
        int limit = Math.min(CELLS, now.filledCells() + n * now.people);
        for (int i = 0; i < CELLS * COLOURS && most < limit; i++) {
            int cell = i / COLOURS;
            int colour = i % COLOURS;
            if (now.isFilled(cell) || now.wantOf(cell) == colour) {
                continue;
            }
            think();
            thought.wish(cell, colour);
            int many = filledBehind(n, NONE);
            if (many > most) {
                most = many;
                best = 10 * cell + colour;
            }
        }
        return what == 0 ? best : most;
    }

    public int idle(int n) {
        if (n < 0 || n > MOST_DAYS) {
            return BAD;
        }
        think();
        int many = filledBehind(n, NONE);
        for (int one = 0; one < now.people; one++) {
            think();
            if (filledBehind(n, one) == many) {
                return one;
            }
        }
        return NONE;
    }

    public int gap(int what) {
        switch (what) {
            case 0:
                return now.longestGap(true);
            case 1:
                return now.longestGap(false);
            case 2:
                return now.fillableFromBox();
            case 3:
                return now.coloursUnwanted();
            default:
                return BAD;
        }
    }

    public long share(int part) {
        int given = now.squaresGiven();
        if (part < 0 || part > 1 || given == 0) {
            return NO;
        }
        return lowest(now.filledCells(), given, part);
    }

    // ---- what was told

    public int tells(int sheet, int one, int what) {
        if (!isIn(sheet, SHEETS) || !isIn(one, now.people) || what < 0 || what > 6) {
            return BAD;
        }
        Sheet teller = sheets[sheet];
        if (teller.isMissing()) {
            return NOTHING;
        }
        if (teller.size > MOST_TOLD) {
            return BAD;
        }
        if (what == 0) {
            think();
            return firstOtherwise(teller);
        }
        int bits = 0;
        int many = 0;
        int least = NONE;
        int choices = choicesOf(what);
        for (int v = 0; v < choices; v++) {
            think();
            suppose(one, what, v);
            if (firstOtherwise(teller) == NONE) {
                bits |= 1 << v;
                many++;
                least = least == NONE ? v : least;
            }
        }
        if (what == 4) {
            return many;
        }
        return what == 5 ? least : bits;
    }

    public int film(int sheet, int n) {
        if (!isIn(sheet, SHEETS) || n < 0 || n > MOST_TOLD) {
            return BAD;
        }
        Sheet row = sheets[sheet];
        row.become(BYTES, n);
        think();
        for (int i = 0; i < n; i++) {
            rules.passDay(thought, NONE);
            row.put(i, thought.filledCells());
        }
        return n;
    }

    public int drawn(int seed, int n) {
        if (n < 0 || n > MOST_DAYS) {
            return BAD;
        }
        thinkDrawn(seed);
        return filledBehind(n, NONE);
    }

    public long chance(int seed, int m, int k, int part) {
        if (m < 1 || m > MOST_SEEDS || k < 0 || k > CELLS || part < 0 || part > 1) {
            return NO;
        }
        int good = 0;
        for (int i = 0; i < m; i++) {
            thinkDrawn(seed + i);
            if (filledBehind(DAYS_OF_CHANCE, NONE) >= k) {
                good++;
            }
        }
        return lowest(good, m, part);
    }

    public int image() {
        imaged.become(now);
        isImaged = true;
        return now.people;
    }

    public int back() {
        if (!isImaged) {
            return STATE;
        }
        now.become(imaged);
        return now.people;
    }

    public int count(int what) {
        switch (what) {
            case 0:
                return now.people;
            case 1:
                return now.filledCells();
            case 2:
                return now.today;
            case 3:
                return rules.known;
            case 4:
                return reader.size;
            case 5:
                return now.rule;
            default:
                return BAD;
        }
    }

    // ---- the host

    public int sheet(int sheet, int sort, int n) {
        if (!isIn(sheet, SHEETS) || sort < NONE || sort >= SORTS) {
            return BAD;
        }
        if (sort == NONE) {
            sheets[sheet].become(NONE, 0);
            return 1;
        }
        if (n > SHEET_SIZE) {
            return BAD;
        }
        if (n < 0) {
            return BELOW_ZERO;
        }
        sheets[sheet].become(sort, n);
        return 1;
    }

    public int cell(int sheet, int i, int v) {
        if (!isIn(sheet, SHEETS)) {
            return BAD;
        }
        Sheet row = sheets[sheet];
        if (row.isMissing()) {
            return NOTHING;
        }
        if (!isIn(i, row.size)) {
            return OUTSIDE;
        }
        row.put(i, v);
        return 1;
    }

    public int copy(int sheet, int i, int other, int j, int n) {
        if (!isIn(sheet, SHEETS) || !isIn(other, SHEETS)) {
            return BAD;
        }
        Sheet from = sheets[sheet];
        Sheet to = sheets[other];
        if (from.isMissing() || to.isMissing()) {
            return NOTHING;
        }
        if (from.sort != to.sort) {
            return OTHER_SORT;
        }
        if (!from.hasRow(i, n) || !to.hasRow(j, n)) {
            return OUTSIDE;
        }
        System.arraycopy(from.items, i, to.items, j, n);
        return n;
    }

    public int exarchate(int sheet, int sort, int from, int n) {
        if (!isIn(sheet, SHEETS) || !isIn(sort, SORTS) || n < 0 || n > MOST_PEOPLE) {
            return BAD;
        }
        Sheet row = sheets[sheet];
        if (row.isMissing()) {
            return NOTHING;
        }
        if (row.sort != sort) {
            return OTHER_SORT;
        }
        int came = 0;
        for (int i = 0; i < n; i++) {
            int first = from + 3 * i;
            if (!row.hasRow(first, 3)) {
                return OUTSIDE;
            }
            if (person(row.items[first], row.items[first + 1], row.items[first + 2]) >= 0) {
                came++;
            }
        }
        return came;
    }

    public int taken(int one, int k) {
        if (!isIn(k, KINDS)) {
            return BAD;
        }
        if (!isIn(one, now.people)) {
            return NOTHING;
        }
        return isUnder(now.kinds[one], k) ? now.numbers[one] : OTHER_SORT;
    }

    // ---- what the calls share

    private static boolean isIn(int v, int size) {
        return v >= 0 && v < size;
    }

    /** Whether there is an "of" of which set() and told() can speak. */
    private boolean isThere(int what, int of) {
        switch (what) {
            case THE_DAY:
                return true;
            case WANTS:
            case FILLED:
                return isIn(of, CELLS);
            case IN_BOX:
                return isIn(of, COLOURS);
            default:
                return isIn(of, now.people);
        }
    }

    private static boolean isUnder(int kind, int above) {
        int up = kind;
        for (int i = 0; i < KINDS && isIn(up, KINDS); i++) {
            if (up == above) {
                return true;
            }
            up = ABOVE[up];
        }
        return false;
    }

    private void think() {
        thought.become(now);
    }

    private void passInThought(int n) {
        for (int i = 0; i < n; i++) {
            rules.passDay(thought, NONE);
        }
    }

    /** How many are FILLED in thought behind n DAYS; a WHOLE picture stays as it is, whatever comes. */
    private int filledBehind(int n, int silent) {
        for (int i = 0; i < n && thought.filled != WHOLE; i++) {
            rules.passDay(thought, silent);
        }
        return thought.filledCells();
    }

    /** A thought in which all CELLS WANT what is DRAWN by a SEED. */
    private void thinkDrawn(int seed) {
        think();
        int z = seed;
        for (int cell = 0; cell < CELLS; cell++) {
            z = z * 1103515245 + 12345;
            thought.wish(cell, (z >>> 9) % COLOURS);
        }
    }

    /** The first item that tells otherwise than the DAYS that pass in thought. */
    private int firstOtherwise(Sheet teller) {
        for (int i = 0; i < teller.size; i++) {
            rules.passDay(thought, NONE);
            if (teller.items[i] != thought.filledCells()) {
                return i;
            }
        }
        return NONE;
    }

    private int choicesOf(int what) {
        switch (what) {
            case 1:
                return KINDS;
            case 2:
                return NUMBERS;
            case 3:
                return COLOURS;
            case 6:
                return rules.known;
            default:
                return MOST + 1;
        }
    }

    private void suppose(int one, int what, int v) {
        switch (what) {
            case 1:
                thought.kinds[one] = v;
                break;
            case 2:
                thought.numbers[one] = v;
                break;
            case 3:
                thought.looksAt[one] = v;
                break;
            case 6:
                thought.rule = v;
                break;
            default:
                thought.looked[one] = v;
                break;
        }
    }

    /** A part (0 above, 1 below the line) of a fraction in lowest terms; below is more than 0. */
    private static long lowest(int above, int below, int part) {
        int a = below;
        int b = above;
        for (int i = 0; i < 100 && b != 0; i++) {
            int rest = a % b;
            a = b;
            b = rest;
        }
        if (a == 0) {
            return NO; // never so, as below isn't 0: the divisor is looked at all the same
        }
        return part == 0 ? above / a : below / a;
    }

    /**
     * All that AN IMAGE keeps: the picture, THE BOX, PEOPLE, DAY and which TEXT is THE RULE. A thought is a second
     * one of these, used again and again, so that calls make no objects.
     */
    private static final class World {
        /** The CELLS that WANT each COLOUR, as bits. */
        final long[] wanting = new long[COLOURS];
        long filled = 0L;
        int today = 0;
        int rule = 0;
        final int[] inBox = new int[COLOURS];
        int people = 0;
        final int[] kinds = new int[MOST_PEOPLE];
        final int[] numbers = new int[MOST_PEOPLE];
        final int[] looksAt = new int[MOST_PEOPLE];
        final int[] looked = new int[MOST_PEOPLE];
        final int[] gave = new int[MOST_PEOPLE];

        World() {
            for (int cell = 0; cell < CELLS; cell++) {
                wanting[cell % COLOURS] |= 1L << cell;
            }
        }

        void become(World other) {
            filled = other.filled;
            today = other.today;
            rule = other.rule;
            people = other.people;
            for (int colour = 0; colour < COLOURS; colour++) {
                wanting[colour] = other.wanting[colour];
                inBox[colour] = other.inBox[colour];
            }
            for (int one = 0; one < MOST_PEOPLE; one++) {
                kinds[one] = other.kinds[one];
                numbers[one] = other.numbers[one];
                looksAt[one] = other.looksAt[one];
                looked[one] = other.looked[one];
                gave[one] = other.gave[one];
            }
        }

        int welcome(int kind, int number, int colour) {
            if (people >= MOST_PEOPLE) {
                return FULL;
            }
            int one = people;
            kinds[one] = kind;
            numbers[one] = number;
            looksAt[one] = colour;
            looked[one] = 0;
            gave[one] = 0;
            people++;
            return one;
        }

        int figure(int what, int of) {
            switch (what) {
                case THE_DAY:
                    return today;
                case WANTS:
                    return wantOf(of);
                case FILLED:
                    return isFilled(of) ? 1 : 0;
                case IN_BOX:
                    return inBox[of];
                case NUMBER:
                    return numbers[of];
                case LOOKS_AT:
                    return looksAt[of];
                case LOOKED:
                    return looked[of];
                case GAVE:
                    return gave[of];
                case KIND:
                    return kinds[of];
                default:
                    return NONE_SUCH;
            }
        }

        void change(int what, int of, int v) {
            switch (what) {
                case THE_DAY:
                    today = v;
                    break;
                case WANTS:
                    wish(of, v);
                    break;
                case FILLED:
                    filled = v == 1 ? filled | 1L << of : filled & ~(1L << of);
                    break;
                case IN_BOX:
                    inBox[of] = v;
                    break;
                case NUMBER:
                    numbers[of] = v;
                    break;
                case LOOKS_AT:
                    looksAt[of] = v;
                    break;
                case LOOKED:
                    looked[of] = v;
                    break;
                case GAVE:
                    gave[of] = v;
                    break;
                default:
                    break;
            }
        }

        boolean isFilled(int cell) {
            return (filled & 1L << cell) != 0L;
        }

        int wantOf(int cell) {
            return colourOf(1L << cell);
        }

        /** The COLOUR that a CELL, told as its bit, WANTS: each CELL WANTS one. */
        private int colourOf(long bit) {
            int colour = 0;
            while (colour < COLOURS - 1 && (wanting[colour] & bit) == 0L) {
                colour++;
            }
            return colour;
        }

        void wish(int cell, int colour) {
            for (int c = 0; c < COLOURS; c++) {
                wanting[c] &= ~(1L << cell);
            }
            wanting[colour] |= 1L << cell;
        }

        int filledCells() {
            return Long.bitCount(filled);
        }

        int squaresInBox() {
            int sum = 0;
            for (int colour = 0; colour < COLOURS; colour++) {
                sum += inBox[colour];
            }
            return sum;
        }

        int squaresGiven() {
            int sum = 0;
            for (int one = 0; one < people; one++) {
                sum += gave[one];
            }
            return sum;
        }

        /** The COLOUR that the first CELL that isn't FILLED WANTS, where there is one. */
        int colourOfFirstEmpty() {
            long empty = ~filled;
            return colourOf(empty & -empty);
        }

        /** A square goes into the first CELL that WANTS it, or into THE BOX, or is lost. */
        void lay(int colour) {
            long open = wanting[colour] & ~filled;
            if (open != 0L) {
                filled |= open & -open;
            } else if (inBox[colour] < MOST) {
                inBox[colour]++;
            }
        }

        int longestGap(boolean itsPlace) {
            int best = NONE;
            int longest = 0;
            int size = 0;
            for (int cell = 0; cell < CELLS; cell++) {
                size = isFilled(cell) ? 0 : size + 1;
                if (size > longest) {
                    longest = size;
                    best = cell - size + 1;
                }
            }
            return itsPlace ? best : longest;
        }

        int fillableFromBox() {
            int sum = 0;
            for (int colour = 0; colour < COLOURS; colour++) {
                sum += Math.min(inBox[colour], Long.bitCount(wanting[colour] & ~filled));
            }
            return sum;
        }

        int coloursUnwanted() {
            int bits = 0;
            for (int colour = 0; colour < COLOURS; colour++) {
                if ((wanting[colour] & ~filled) == 0L) {
                    bits |= 1 << colour;
                }
            }
            return bits;
        }
    }

    /** The TEXTS, and what PEOPLE do by them. */
    private static final class Rules {
        final Text[] texts = new Text[MOST_TEXTS];
        int known = 0;
        private final int[] values = new int[TAPE_SIZE];

        Rules() {
            for (int i = 0; i < MOST_TEXTS; i++) {
                texts[i] = new Text();
            }
        }

        /** A DAY; the silent one (NONE: nobody) looks, but gives no squares. */
        void passDay(World w, int silent) {
            for (int one = 0; one < w.people; one++) {
                w.looked[one] = Math.min(MOST, w.looked[one] + 1);
                if (w.looked[one] < daysNeeded(w, one)) {
                    continue;
                }
                int given = colourGiven(w, one);
                int next = colourNext(w, one);
                if (one != silent) {
                    w.gave[one] = Math.min(MOST, w.gave[one] + 1);
                    w.lay(given);
                }
                w.looksAt[one] = next;
                w.looked[one] = 0;
            }
            w.today++;
        }

        int daysNeeded(World w, int one) {
            switch (w.kinds[one]) {
                case WIFE:
                    return daysBounded(reckon(PART_NEEDS, w, one) / 2);
                case BOY:
                    return daysBounded(reckon(PART_NEEDS, w, one) + w.numbers[one]);
                case DEACON:
                    return daysBounded(reckon(PART_NEEDS, w, one) / 2 + 3);
                case MONK:
                    if (w.squaresInBox() == 0) {
                        return 2;
                    }
                    return daysBounded(reckon(PART_NEEDS, w, one) + w.numbers[one]);
                case RAG:
                    return 1;
                default:
                    return daysBounded(reckon(PART_NEEDS, w, one));
            }
        }

        int colourGiven(World w, int one) {
            int at = w.looksAt[one];
            switch (w.kinds[one]) {
                case WIFE:
                    return Math.floorMod(reckon(PART_SEES, w, one), COLOURS);
                case BOY:
                    return Math.floorMod(at + 1, COLOURS);
                case DEACON:
                    return w.today % 2 == 0 ? at : Math.floorMod(reckon(PART_SEES, w, one), COLOURS);
                case MONK:
                    return w.filled == WHOLE ? Math.floorMod(at + 1, COLOURS) : w.colourOfFirstEmpty();
                case RAG:
                    return Math.floorMod(w.numbers[one], COLOURS);
                default:
                    return at;
            }
        }

        int colourNext(World w, int one) {
            int at = w.looksAt[one];
            switch (w.kinds[one]) {
                case WIFE:
                    return at;
                case BOY:
                case MONK:
                    return Math.floorMod(reckon(PART_TURNS, w, one) + at, COLOURS);
                case DEACON:
                    return Math.floorMod(at + w.numbers[one], COLOURS);
                case RAG:
                    return Math.floorMod(reckon(PART_TURNS, w, one) - w.numbers[one], COLOURS);
                default:
                    return Math.floorMod(reckon(PART_TURNS, w, one), COLOURS);
            }
        }

        private static int daysBounded(int days) {
            return Math.max(1, Math.min(MOST, days));
        }

        /** What a part of THE RULE tells of one, within its bounds. */
        private int reckon(int part, World w, int one) {
            if (!isIn(w.rule, known)) {
                return 0;
            }
            Text t = texts[w.rule];
            int size = 0;
            int end = t.ends[part];
            for (int i = part == 0 ? 0 : t.ends[part - 1]; i < end; i++) {
                int step = t.code[i];
                if (step > VALUES_ABOVE) {
                    if (size < values.length) {
                        values[size] = step >= 0 ? step : named(step, w, one);
                        size++;
                    }
                } else if (step > OF_ONE_ABOVE) {
                    if (size > 0) {
                        values[size - 1] = ofOne(step, values[size - 1]);
                    }
                } else if (size > 1) {
                    size--;
                    values[size - 1] = ofTwo(step, values[size - 1], values[size]);
                }
            }
            int value = size > 0 ? values[0] : 0;
            return Math.max(part == PART_NEEDS ? 0 : -MOST, Math.min(MOST, value));
        }

        private static int named(int name, World w, int one) {
            switch (name) {
                case SAY_LOOKED:
                    return w.looked[one];
                case SAY_COLOUR:
                    return w.looksAt[one];
                case SAY_NUMBER:
                    return w.numbers[one];
                case SAY_DAY:
                    return w.today;
                case SAY_FILLED:
                    return Long.bitCount(w.filled);
                case SAY_BOX:
                    return w.squaresInBox();
                default:
                    return 0;
            }
        }

        private static int ofOne(int step, int a) {
            if (step == DO_MINUS) {
                return -a;
            }
            return a == 0 ? 1 : 0;
        }

        private static int ofTwo(int step, int a, int b) {
            switch (step) {
                case DO_OR:
                    return a != 0 || b != 0 ? 1 : 0;
                case DO_AND:
                    return a != 0 && b != 0 ? 1 : 0;
                case DO_LESS:
                    return a < b ? 1 : 0;
                case DO_EQUAL:
                    return a == b ? 1 : 0;
                case DO_ADD:
                    return a + b;
                case DO_TAKE:
                    return a - b;
                case DO_TIMES:
                    return a * b;
                default:
                    return 0;
            }
        }
    }

    /** A TEXT as steps, each behind what it is done to, so that no tree need be kept. */
    private static final class Text {
        /** A TOKEN makes one step at most, so that no TAPE makes more than there is room for. */
        final int[] code = new int[TAPE_SIZE];
        final int[] ends = new int[PARTS];
        private int size = 0;

        void clear() {
            size = 0;
        }

        void add(int step) {
            if (size < code.length) {
                code[size] = step;
                size++;
            }
        }

        void endPart(int part) {
            ends[part] = size;
        }
    }

    /** THE TAPE, and how a TEXT is read from it. */
    private static final class Reader {
        /** TOKENS: a SIGN is its byte; WORDS are numbered from WORD on, KEYS first, then NAMES. */
        private static final int END = 0, UNFIT = 1, DIGITS = 2, WORD = 300;
        private static final int OR = WORD + 3, AND = WORD + 4, NOT = WORD + 5, FIRST_NAME = WORD + 6;
        private static final int WORDS = 12, MOST_DIGITS = 4, MOST_OPEN = 5;

        private final int[] tape = new int[TAPE_SIZE];
        int size = 0;
        private int place = 0;
        private int token = END;
        private int tokenPlace = 0;
        private int number = 0;

        int append(int letter) {
            if (size >= TAPE_SIZE) {
                return FULL;
            }
            tape[size] = letter;
            size++;
            return size;
        }

        void wipe() {
            size = 0;
        }

        /** THE TAPE becomes a TEXT: NONE, or the place of its FAULT. */
        int readInto(Text t) {
            t.clear();
            place = 0;
            advance();
            for (int part = 0; part < PARTS; part++) {
                if (!skip(WORD + part) || !either(t, 0) || !skip(';')) {
                    return tokenPlace;
                }
                t.endPart(part);
            }
            return token == END ? NONE : tokenPlace;
        }

        private boolean skip(int due) {
            if (token != due) {
                return false;
            }
            advance();
            return true;
        }

        private boolean either(Text t, int open) {
            boolean stands = both(t, open);
            for (int i = 0; i < TAPE_SIZE && stands && token == OR; i++) {
                advance();
                stands = both(t, open);
                t.add(DO_OR);
            }
            return stands;
        }

        private boolean both(Text t, int open) {
            boolean stands = negated(t, open);
            for (int i = 0; i < TAPE_SIZE && stands && token == AND; i++) {
                advance();
                stands = negated(t, open);
                t.add(DO_AND);
            }
            return stands;
        }

        private boolean negated(Text t, int open) {
            if (token != NOT) {
                return compared(t, open);
            }
            if (open >= MOST_OPEN) {
                return false;
            }
            advance();
            boolean stands = negated(t, open + 1);
            t.add(DO_NOT);
            return stands;
        }

        private boolean compared(Text t, int open) {
            boolean stands = sum(t, open);
            if (!stands || token != '<' && token != '=') {
                return stands;
            }
            int step = token == '<' ? DO_LESS : DO_EQUAL;
            advance();
            stands = sum(t, open);
            t.add(step);
            return stands;
        }

        private boolean sum(Text t, int open) {
            boolean stands = term(t, open);
            for (int i = 0; i < TAPE_SIZE && stands && (token == '+' || token == '-'); i++) {
                int step = token == '+' ? DO_ADD : DO_TAKE;
                advance();
                stands = term(t, open);
                t.add(step);
            }
            return stands;
        }

        private boolean term(Text t, int open) {
            boolean stands = single(t, open);
            for (int i = 0; i < TAPE_SIZE && stands && token == '*'; i++) {
                advance();
                stands = single(t, open);
                t.add(DO_TIMES);
            }
            return stands;
        }

        private boolean single(Text t, int open) {
            if (token == DIGITS) {
                t.add(number);
                advance();
                return true;
            }
            if (token >= FIRST_NAME) {
                t.add(SAY_LOOKED - (token - FIRST_NAME));
                advance();
                return true;
            }
            if (token != '-' && token != '(' || open >= MOST_OPEN) {
                return false;
            }
            if (skip('(')) {
                return either(t, open + 1) && skip(')');
            }
            advance();
            boolean stands = single(t, open + 1);
            t.add(DO_MINUS);
            return stands;
        }

        /** The next TOKEN is looked at; what can't begin one, or is too long, is UNFIT. */
        private void advance() {
            while (place < size && (tape[place] == ' ' || tape[place] == '\n')) {
                place++;
            }
            tokenPlace = place;
            if (place >= size) {
                token = END;
            } else if (isLetter(tape[place])) {
                takeWord();
            } else if (isDigit(tape[place])) {
                takeDigits();
            } else {
                token = isSign(tape[place]) ? tape[place] : UNFIT;
                place++;
            }
        }

        private void takeWord() {
            while (place < size && isLetter(tape[place])) {
                place++;
            }
            token = UNFIT;
            for (int i = 0; i < WORDS; i++) {
                if (isWord(wordAt(i))) {
                    token = WORD + i;
                }
            }
        }

        private void takeDigits() {
            number = 0;
            while (place < size && isDigit(tape[place])) {
                number = number * 10 + tape[place] - '0';
                place++;
            }
            token = place - tokenPlace > MOST_DIGITS ? UNFIT : DIGITS;
        }

        private boolean isWord(String word) {
            if (word.length() != place - tokenPlace) {
                return false;
            }
            for (int i = 0; i < word.length(); i++) {
                if (word.charAt(i) != tape[tokenPlace + i]) {
                    return false;
                }
            }
            return true;
        }

        private static String wordAt(int i) {
            switch (i) {
                case 0:
                    return "needs";
                case 1:
                    return "sees";
                case 2:
                    return "turns";
                case 3:
                    return "or";
                case 4:
                    return "and";
                case 5:
                    return "not";
                case 6:
                    return "looked";
                case 7:
                    return "colour";
                case 8:
                    return "number";
                case 9:
                    return "day";
                case 10:
                    return "filled";
                default:
                    return "box";
            }
        }

        private static boolean isLetter(int b) {
            return b >= 'a' && b <= 'z';
        }

        private static boolean isDigit(int b) {
            return b >= '0' && b <= '9';
        }

        private static boolean isSign(int b) {
            return b == '(' || b == ')' || b == ';' || b == '+' || b == '-' || b == '*' || b == '<' || b == '=';
        }
    }

    /** A SHEET: a row of numbers of a sort, or missing (NONE). */
    private static final class Sheet {
        final int[] items = new int[SHEET_SIZE];
        int size = 0;
        int sort = NONE;

        boolean isMissing() {
            return sort == NONE;
        }

        void become(int newSort, int newSize) {
            sort = newSort;
            size = newSize;
            for (int i = 0; i < SHEET_SIZE; i++) {
                items[i] = 0;
            }
        }

        void put(int i, int v) {
            if (sort == BYTES) {
                items[i] = (byte) v;
            } else if (sort == SHORTS) {
                items[i] = (short) v;
            } else {
                items[i] = v;
            }
        }

        boolean hasRow(int first, int many) {
            return first >= 0 && many >= 0 && many <= size && first <= size - many;
        }
    }
}
