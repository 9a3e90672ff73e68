import java.util.function.Supplier;

/**
 * Each sentence of the document that names a boundary (too small, too large, empty, full, a wrap-around, a refused
 * call): at the bound, one below and one above it; that a refused call changed nothing; which refusal comes where two
 * would do. No object is used for more than 512 calls, as the document promises nothing beyond.
 */
public final class BoundsTest {
    private static final int NONE = -1, BAD = -2, STATE = -3, FULL = -4;
    private static final int NOTHING = -11, OUTSIDE = -12, OTHER_SORT = -13, BELOW_ZERO = -14, NONE_SUCH = -1000;
    private static final long NO = -4611686018427387904L;
    private static final int LOOKER = 0, WIFE = 1, BOY = 2, DEACON = 3, MONK = 4, RAG = 5;
    private static final int LOW = Integer.MIN_VALUE, HIGH = Integer.MAX_VALUE;
    /** 2 to the 31st, as a TEXT can say it with NUMBERS of 4 digits: it wraps to the least int. */
    private static final String LEAST = "4096*4096*128";

    private static int wrong = 0;
    private static int asked = 0;
    private static int sentences = 0;
    private static String sentence = "";

    interface Call {
        long on(MosaicOfSights x);
    }

    interface CallOf {
        long on(MosaicOfSights x, int v);
    }

    public static void main(String[] args) {
        terms();
        pictureAndPeople();
        texts();
        days();
        best();
        toldAndDrawn();
        host();
        System.out.println(wrong == 0 ? sentences + " sentences, " + asked + " answers are as due"
                : wrong + " answers are not as due");
        if (wrong != 0) {
            System.exit(1);
        }
    }

    private static void terms() {
        atFirst();
        cells();
        dayBound();
        box();
        people();
        numberLookedGave();
        needsBounds();
        needsOfKinds();
        givesAndTurnsBounds();
        monkEdges();
        wrappingSums();
        namesAtTheirBounds();
    }

    private static void pictureAndPeople() {
        setRefuses();
        personRefuses();
        toldRefuses();
        pictureRefuses();
    }

    private static void texts() {
        tapeBound();
        everyByte();
        digitsBound();
        openBound();
        openEnds();
        endsTooEarly();
        firstFault();
        textsBound();
        forceBound();
    }

    private static void days() {
        lookedIsBounded();
        gaveIsBounded();
        boxIsBounded();
        asManyAsNeeded();
        toldInTheMiddleOfADay();
        lastDay();
        inThoughtBeyondLastDay();
        searchesBeyondLastDay();
        daysGoOnWhenWhole();
        runBounds();
        laterBounds();
        endsBounds();
    }

    private static void best() {
        atWhatBounds();
        atWhatLookedStays();
        wantBounds();
        wantOnlyIfMore();
        wantByCellsThenColours();
        idleBounds();
        gapEdges();
        patchEdges();
        shareEdges();
    }

    private static void toldAndDrawn() {
        tellsRefuses();
        tellsTwenty();
        tellsEdges();
        tellsOfLooked();
        tellsLookedStays();
        filmBounds();
        drawnBounds();
        drawnWraps();
        chanceBounds();
        chanceTwelveDays();
        chanceSeedsWrap();
        imageEdges();
        countBounds();
    }

    private static void host() {
        sheetBounds();
        sheetWhichRefusal();
        cellBounds();
        cellLowestBits();
        copyBounds();
        copyWhichRefusal();
        exarchateBounds();
        exarchateWhichRefusal();
        exarchateOutside();
        exarchateLeavesOut();
        takenRefuses();
    }

    // ---- what the tests share

    private static void says(String words) {
        sentence = words;
        sentences++;
    }

    private static void due(String what, long got, long want) {
        asked++;
        if (got != want) {
            wrong++;
            System.out.println("'" + sentence + "': " + what + " answered " + got + ", due is " + want);
        }
    }

    private static void fill(MosaicOfSights x, String text) {
        for (int i = 0; i < text.length(); i++) {
            x.feed(text.charAt(i));
        }
    }

    private static int write(MosaicOfSights x, String text) {
        fill(x, text);
        return x.text();
    }

    private static MosaicOfSights ruled(String text) {
        MosaicOfSights x = new MosaicOfSights();
        due("text " + text, write(x, text), 1);
        x.force(1);
        return x;
    }

    private static MosaicOfSights withOne(String text, int kind, int number, int colour) {
        MosaicOfSights x = ruled(text);
        x.person(kind, number, colour);
        return x;
    }

    private static MosaicOfSights rag(int number) {
        MosaicOfSights x = new MosaicOfSights();
        x.person(RAG, number, 0);
        return x;
    }

    private static void fillCells(MosaicOfSights x, int from, int to) {
        for (int c = from; c < to; c++) {
            x.set(2, c, 1);
        }
    }

    /** All CELLS that WANT a COLOUR, in a new picture, are FILLED. */
    private static void fillColour(MosaicOfSights x, int colour) {
        for (int c = colour; c < 64; c += 4) {
            x.set(2, c, 1);
        }
    }

    private static void row(MosaicOfSights x, int sheet, int sort, int... items) {
        x.sheet(sheet, sort, items.length);
        for (int i = 0; i < items.length; i++) {
            x.cell(sheet, i, items[i]);
        }
    }

    /** A state with something of all: 4 PEOPLE, 3 TEXTS, an IMAGE of an earlier state, SHEETS of each sort, a TAPE. */
    private static MosaicOfSights some() {
        MosaicOfSights x = unimaged();
        x.image();
        x.person(RAG, 7, 0);
        x.force(1);
        x.set(0, 0, 77);
        x.set(1, 8, 3);
        x.set(2, 20, 1);
        x.set(3, 3, 12);
        x.set(4, 1, 5);
        x.set(5, 2, 1);
        x.set(6, 1, 2);
        x.set(7, 3, 6);
        row(x, 0, 0, 5, 9, 3);
        row(x, 1, 1, 1, 2, 3, 0);
        row(x, 2, 2, 2, 4, 1);
        fill(x, "needs 4");
        return x;
    }

    private static MosaicOfSights unimaged() {
        MosaicOfSights x = new MosaicOfSights();
        write(x, "needs 6;sees 1;turns box;");
        write(x, "needs day;sees 2;turns 3;");
        x.force(2);
        x.person(DEACON, 6, 3);
        x.person(MONK, 9, 1);
        x.person(WIFE, 2, 2);
        x.set(0, 0, 41);
        x.set(1, 7, 0);
        x.set(2, 1, 1);
        x.set(2, 63, 1);
        x.set(3, 1, 4);
        x.set(6, 0, 1);
        x.set(7, 2, 8);
        return x;
    }

    private static MosaicOfSights crowded() {
        MosaicOfSights x = some();
        x.person(BOY, 8, 2);
        return x;
    }

    private static MosaicOfSights longTape() {
        MosaicOfSights x = some();
        fill(x, " ".repeat(153));
        return x;
    }

    /** 6 TEXTS, and a TAPE that would have a FAULT. */
    private static MosaicOfSights manyTexts() {
        MosaicOfSights x = some();
        x.text();
        for (int i = 0; i < 3; i++) {
            write(x, "needs " + i + ";sees 1;turns 1;");
        }
        fill(x, "need");
        return x;
    }

    private static MosaicOfSights onLastDay() {
        MosaicOfSights x = some();
        x.set(0, 0, 999);
        return x;
    }

    /** All that calls can find out of an object, which is spent by it. */
    private static String found(MosaicOfSights x) {
        StringBuilder s = new StringBuilder();
        findState(x, s);
        findSheets(x, s);
        s.append("text ").append(x.text()).append(' ');
        findTexts(x, s);
        s.append("back ").append(x.back()).append(' ');
        findState(x, s);
        findItems(x, s);
        return s.toString();
    }

    private static void findState(MosaicOfSights x, StringBuilder s) {
        for (int what = 0; what <= 4; what++) {
            s.append("picture ").append(x.picture(what)).append(' ');
        }
        for (int what = 0; what <= 5; what++) {
            s.append("count ").append(x.count(what)).append(' ');
        }
        for (int colour = 0; colour < 4; colour++) {
            s.append("box ").append(x.told(colour, 3)).append(' ');
        }
        for (int one = 0; one < x.count(0); one++) {
            for (int what = 4; what <= 11; what++) {
                s.append("one ").append(x.told(one, what)).append(' ');
            }
        }
    }

    /** Sorts and sizes, by calls that change nothing: nobody comes, an item becomes what it is. */
    private static void findSheets(MosaicOfSights x, StringBuilder s) {
        for (int sheet = 0; sheet < 4; sheet++) {
            for (int sort = 0; sort < 3; sort++) {
                s.append("sort ").append(x.exarchate(sheet, sort, 0, 0)).append(' ');
            }
            for (int i = 0; i < 6; i++) {
                s.append("size ").append(x.copy(sheet, i, sheet, i, 1)).append(' ');
            }
        }
    }

    private static void findTexts(MosaicOfSights x, StringBuilder s) {
        for (int t = 0; t < x.count(3); t++) {
            x.force(t);
            s.append("needs ").append(x.told(0, 9)).append(' ');
            s.append("gives ").append(x.told(2, 10)).append(' ');
            s.append("turns ").append(x.told(1, 11)).append(' ');
        }
    }

    /** Items (0 .. 9), each as the NUMBER of one who comes by SHEET 3, which is spent by it. */
    private static void findItems(MosaicOfSights x, StringBuilder s) {
        for (int sheet = 0; sheet < 3; sheet++) {
            x.sheet(3, sheet, 3);
            for (int i = 0; i < 3; i++) {
                x.copy(sheet, i, 3, 1, 1);
                s.append("item ").append(x.exarchate(3, sheet, 0, 1)).append(' ').append(x.told(3, 4)).append(' ');
                x.back();
            }
        }
    }

    private static void refused(String name, Supplier<MosaicOfSights> state, long refusal, Call call) {
        MosaicOfSights x = state.get();
        due(name, call.on(x), refusal);
        due(name + ": it changed nothing", found(x).equals(found(state.get())) ? 1 : 0, 1);
    }

    private static void refused(String name, long refusal, Call call) {
        refused(name, BoundsTest::some, refusal, call);
    }

    /** A call that is in thought, or only asks. */
    private static void keepsAll(String name, Call call) {
        MosaicOfSights x = some();
        long first = call.on(x);
        due(name + " asked again", call.on(x), first);
        due(name + " is in thought", found(x).equals(found(some())) ? 1 : 0, 1);
    }

    /** An argument is taken at its bounds, and refused outside them. */
    private static void within(String name, int least, int most, long refusal, CallOf call) {
        for (int v : new int[] {least, most}) {
            due(name + " " + v + " is taken", call.on(some(), v) == refusal ? 0 : 1, 1);
        }
        for (int v : new int[] {least - 1, most + 1, LOW, HIGH}) {
            refused(name + " " + v, refusal, x -> call.on(x, v));
        }
    }

    // ---- terms 1

    private static void atFirst() {
        says("An empty picture, nobody. .. at first its number modulo 4 .. not, at first .. none at first");
        MosaicOfSights x = new MosaicOfSights();
        for (int c = 0; c < 64; c++) {
            due("cell " + c, x.told(c, 1) * 10 + x.told(c, 2), c % 4 * 10);
        }
        for (int colour = 0; colour < 4; colour++) {
            due("box", x.told(colour, 3), 0);
            due("sheet is missing", x.copy(colour, 0, colour, 0, 0), NOTHING);
        }
        int[] counts = {0, 0, 0, 1, 0, 0};
        for (int what = 0; what < 6; what++) {
            due("count " + what, x.count(what), counts[what]);
        }
        due("no image", x.back(), STATE);
        says("LOOKED for so many days (0 .. 99; 0 as one comes), GAVE so many squares (0 .. 99; 0)");
        x.person(LOOKER, 9, 3);
        due("looked", x.told(0, 6), 0);
        due("gave", x.told(0, 7), 0);
    }

    private static void cells() {
        says("CELLS 0 .. 63: each WANTS a COLOUR (0 .. 3 ..), is FILLED or not; sets .. as longs (bit c for CELL c)");
        for (int c : new int[] {0, 31, 32, 63}) {
            MosaicOfSights x = new MosaicOfSights();
            due("filled", x.set(2, c, 1), 0);
            due("bit " + c, x.picture(4), 1L << c);
            for (int colour : new int[] {0, 3, 1, 2}) {
                x.set(1, c, colour);
                due("wants", x.told(c, 1), colour);
                due("wants by bits", x.picture(colour) >>> c & 1, 1);
                due("wants no other", x.picture((colour + 1) % 4) >>> c & 1, 0);
            }
            due("all cells want one", x.picture(0) ^ x.picture(1) ^ x.picture(2) ^ x.picture(3), -1);
            due("emptied", x.set(2, c, 0), 1);
            due("none", x.picture(4), 0);
        }
        for (int what = 1; what <= 2; what++) {
            int w = what;
            within("set(" + w + ") of", 0, 63, BAD, (x, v) -> x.set(w, v, 0));
            within("told(" + w + ") of", 0, 63, NONE_SUCH, (x, v) -> x.told(v, w));
        }
        within("set(1) to", 0, 3, BAD, (x, v) -> x.set(1, 63, v));
        within("set(2) to", 0, 1, BAD, (x, v) -> x.set(2, 63, v));
    }

    private static void dayBound() {
        says("DAY (0 .. 999; 0 at first)");
        within("set(0) to", 0, 999, BAD, (x, v) -> x.set(0, 0, v));
        MosaicOfSights x = new MosaicOfSights();
        due("was 0", x.set(0, 0, 999), 0);
        due("was 999", x.set(0, 0, 0), 999);
        says("DAY (what 0; of does not matter)");
        int was = 0;
        for (int of : new int[] {-1, 0, 63, 64, LOW, HIGH}) {
            due("set of " + of, x.set(0, of, was + 5), was);
            due("told of " + of, x.told(of, 0), was + 5);
            was += 5;
        }
    }

    private static void box() {
        says("THE BOX: how many squares of each COLOUR it holds (0 .. 99; none at first)");
        within("set(3) of", 0, 3, BAD, (x, v) -> x.set(3, v, 0));
        within("told(3) of", 0, 3, NONE_SUCH, (x, v) -> x.told(v, 3));
        within("set(3) to", 0, 99, BAD, (x, v) -> x.set(3, 2, v));
        MosaicOfSights x = rag(0);
        for (int colour = 0; colour < 4; colour++) {
            due("was 0", x.set(3, colour, 99), 0);
        }
        due("396 together", x.run(0, 0, 1), 396);
        due("was 99", x.set(3, 2, 0), 99);
        due("297 together", x.run(0, 0, 1), 297);
    }

    private static void people() {
        says("PEOPLE (5 at most, numbered from 0)");
        MosaicOfSights x = new MosaicOfSights();
        for (int i = 0; i < 5; i++) {
            due("the number", x.person(5 - i, i, i % 4), i);
            due("so many", x.count(0), i + 1);
        }
        due("no sixth", x.person(0, 0, 0), FULL);
        due("five", x.count(0), 5);
        due("the last one is there", x.told(4, 8), WIFE);
        due("no other", x.told(5, 8), NONE_SUCH);
        refused("a sixth", BoundsTest::crowded, FULL, y -> y.person(LOOKER, 0, 0));
    }

    private static void numberLookedGave() {
        says("a NUMBER (0 .. 9), look AT a COLOUR, have LOOKED (0 .. 99), GAVE (0 .. 99)");
        int[] most = {9, 3, 99, 99};
        for (int what = 4; what <= 7; what++) {
            int w = what;
            within("set(" + w + ") of", 0, 3, BAD, (x, v) -> x.set(w, v, 1));
            within("set(" + w + ") to", 0, most[w - 4], BAD, (x, v) -> x.set(w, 3, v));
            MosaicOfSights x = crowded();
            int was = x.told(4, w);
            due("what it was", x.set(w, 4, most[w - 4]), was);
            due("the most", x.set(w, 4, 0), most[w - 4]);
            due("the least", x.told(4, w), 0);
        }
    }

    private static int needs(String e, int kind, int number) {
        return withOne("needs " + e + ";sees 0;turns 0;", kind, number, 0).told(0, 9);
    }

    private static void needsBounds() {
        says("needs (0 .. 99, else the bound)");
        // A BOY of NUMBER 5 shows the lower bound, a WIFE the upper one, ahead of what NEEDS is bounded by.
        due("-1", needs("-1", BOY, 5), 5);
        due("-9999", needs("-9999", BOY, 5), 5);
        due("0", needs("0", BOY, 5), 5);
        due("1", needs("1", BOY, 5), 6);
        due("98", needs("98", WIFE, 0), 49);
        due("99", needs("99", WIFE, 0), 49);
        due("100", needs("100", WIFE, 0), 49);
        due("9999", needs("9999", WIFE, 0), 49);
        due("deacon of 100", needs("100", DEACON, 0), 52);
        says("(1 .. 99, else the bound: laid once, on what comes out.)");
        due("looker 0", needs("0", LOOKER, 0), 1);
        due("looker 1", needs("1", LOOKER, 0), 1);
        due("looker 2", needs("2", LOOKER, 0), 2);
        due("looker 99", needs("99", LOOKER, 0), 99);
        due("looker 100", needs("100", LOOKER, 0), 99);
        due("wife of 1: half, cut, is 0", needs("1", WIFE, 0), 1);
        due("deacon of 0, not of a bounded wife", needs("0", DEACON, 0), 3);
        due("deacon of 1, not of a bounded wife", needs("1", DEACON, 0), 3);
        due("boy 0 of 0", needs("0", BOY, 0), 1);
        due("boy 1 of 0, not of a bounded looker", needs("0", BOY, 1), 1);
        due("boy 9 of 0, not of a bounded looker", needs("0", BOY, 9), 9);
        due("boy 9 of 89", needs("89", BOY, 9), 98);
        due("boy 9 of 90", needs("90", BOY, 9), 99);
        due("boy 9 of 91", needs("91", BOY, 9), 99);
        due("boy 9 of 99", needs("99", BOY, 9), 99);
        due("rag", needs("99", RAG, 9), 1);
    }

    private static void needsOfKinds() {
        says("WIFE: half (cut) of a LOOKER's .. Quotients are cut toward 0");
        int[] looker = {2, 3, 4, 5, 98, 99};
        int[] wife = {1, 1, 2, 2, 49, 49};
        for (int i = 0; i < looker.length; i++) {
            due("wife of " + looker[i], needs("" + looker[i], WIFE, 9), wife[i]);
            due("deacon of " + looker[i], needs("" + looker[i], DEACON, 9), wife[i] + 3);
        }
    }

    private static int gives(String e, int kind) {
        return withOne("needs 1;sees " + e + ";turns 0;", kind, 0, 0).told(0, 10);
    }

    private static int turns(String e, int kind, int number, int colour) {
        return withOne("needs 1;sees 0;turns " + e + ";", kind, number, colour).told(0, 11);
    }

    private static void givesAndTurnsBounds() {
        String[] e = {"98", "99", "100", "101", "9999", "-98", "-99", "-100", "-101", "-9999", "-1", "-4", "0", "4"};
        int[] colour = {2, 3, 3, 3, 3, 2, 1, 1, 1, 1, 3, 0, 0, 0};
        says("sees, turns (-99 .. 99, else the bound) .. (GIVES, TURNS: that modulo 4, 0 or more.)");
        for (int i = 0; i < e.length; i++) {
            due("wife, sees " + e[i], gives(e[i], WIFE), colour[i]);
            due("looker, turns " + e[i], turns(e[i], LOOKER, 0, 0), colour[i]);
            due("boy, turns " + e[i], turns(e[i], BOY, 0, 3), (colour[i] + 3) % 4);
            due("monk, turns " + e[i], turns(e[i], MONK, 0, 3), (colour[i] + 3) % 4);
            due("rag 9, turns " + e[i], turns(e[i], RAG, 9, 0), (colour[i] + 3) % 4);
        }
        due("boy at 3 gives 0", withOne("needs 1;sees 1;turns 0;", BOY, 0, 3).told(0, 10), 0);
        due("rag 9 gives 1", rag(9).told(0, 10), 1);
        due("rag 4 gives 0", rag(4).told(0, 10), 0);
        due("deacon 9 at 3 turns to 0", turns("1", DEACON, 9, 3), 0);
        says("DEACON: as a WIFE, in odd DAYS, else what it looks AT");
        MosaicOfSights x = withOne("needs 1;sees 2;turns 0;", DEACON, 0, 3);
        int[] day = {0, 1, 2, 998, 999};
        for (int d : day) {
            x.set(0, 0, d);
            due("day " + d, x.told(0, 10), d % 2 == 1 ? 2 : 3);
        }
    }

    private static void monkEdges() {
        says("MONK: as a BOY, but 2, if THE BOX is empty");
        MosaicOfSights x = withOne("needs 7;sees 0;turns 0;", MONK, 9, 0);
        due("empty", x.told(0, 9), 2);
        for (int colour = 0; colour < 4; colour++) {
            x.set(3, colour, 1);
            due("1 of colour " + colour, x.told(0, 9), 16);
            x.set(3, colour, 0);
        }
        due("empty again", x.told(0, 9), 2);
        says("MONK: the COLOUR the first empty CELL WANTS, if there is one, else as a BOY");
        x.set(5, 0, 1);
        fillCells(x, 0, 63);
        due("the last cell", x.told(0, 10), 3);
        x.set(2, 63, 1);
        due("whole", x.told(0, 10), 2);
        x.set(2, 0, 0);
        due("the first cell", x.told(0, 10), 0);
    }

    /** Whether an E is true, as a LOOKER's NEEDS tell it. */
    private static void holds(String e, boolean is) {
        due(e, needs("10+(" + e + ")", LOOKER, 0), is ? 11 : 10);
    }

    private static void wrappingSums() {
        says("An E is an int (32 bits, wrapping)");
        holds(LEAST + "<0", true);
        holds(LEAST + "-1<0", false);
        holds(LEAST + "-1=4096*4096*127+4096*4095+4095", true);
        holds("(" + LEAST + "-1)+1<0", true);
        holds("-(" + LEAST + ")=" + LEAST, true);
        holds("-(" + LEAST + ")<0", true);
        holds(LEAST + "*2=0", true);
        holds(LEAST + "+" + LEAST + "=0", true);
        holds("0-" + LEAST + "<0", true);
        holds("9999*9999*9999<0", true);
        holds("9999*9999*21<0", false);
        holds("9999*9999*22<0", true);
        holds("9999*9999*43<0", false);
        // A comparison by a difference would wrap.
        holds(LEAST + "<1", true);
        holds("1<" + LEAST, false);
        holds(LEAST + "-1<-1", false);
        holds("-1<" + LEAST + "-1", true);
        due("the bound of what wrapped below 0", needs(LEAST, BOY, 5), 5);
        due("the bound of what wrapped above 99", needs(LEAST + "-1", LOOKER, 0), 99);
        due("sees of what wrapped", gives(LEAST, WIFE), 1);
        due("sees of what wrapped back", gives(LEAST + "-1", WIFE), 3);
        says("of or, and, not, <, = 1 or 0 (what is not 0 is true)");
        holds("not -1", false);
        holds("not 0", true);
        holds("(not 0)=1", true);
        holds("(7 or 0)=1", true);
        holds("(0 or -7)=1", true);
        holds("(2 and 4)=1", true);
        holds("(2 and 0)=0", true);
        holds("(" + LEAST + " or 0)=1", true);
        holds("(" + LEAST + " and 1)=1", true);
        holds("1<1", false);
        holds("0<1", true);
        holds("1=1", true);
        holds("1=2", false);
    }

    /** A NAME is just so much: as a RAG's turns, less its NUMBER, tell it. */
    private static void names(MosaicOfSights x, int text, boolean is) {
        x.force(text);
        due("text " + text, x.told(0, 11), is ? 2 : 1);
    }

    private static void namesAtTheirBounds() {
        says("looked: LOOKED; colour: what it looks AT; day: DAY; filled: how many CELLS are; box: .. together");
        MosaicOfSights x = new MosaicOfSights();
        x.person(RAG, 0, 0);
        write(x, "needs 1;sees 0;turns 1+(looked=0 and colour=0 and number=0 and day=0);");
        write(x, "needs 1;sees 0;turns 1+(filled=0 and box=0);");
        write(x, "needs 1;sees 0;turns 1+(looked=99 and colour=3 and day=999);");
        write(x, "needs 1;sees 0;turns 1+(filled=64 and box=396);");
        names(x, 1, true);
        names(x, 2, true);
        names(x, 3, false);
        names(x, 4, false);
        x.set(0, 0, 999);
        x.set(5, 0, 3);
        x.set(6, 0, 99);
        fillCells(x, 0, 64);
        for (int colour = 0; colour < 4; colour++) {
            x.set(3, colour, 99);
        }
        names(x, 1, false);
        names(x, 2, false);
        names(x, 3, true);
        names(x, 4, true);
        x.set(2, 63, 0);
        names(x, 4, false);
        says("number: NUMBER");
        due("0", turns("number=0", LOOKER, 0, 0), 1);
        due("0 of 1", turns("number=0", LOOKER, 1, 0), 0);
        due("9", turns("number=9", LOOKER, 9, 0), 1);
        due("9 of 8", turns("number=9", LOOKER, 8, 0), 0);
    }

    // ---- promises 2 to 5

    private static void setRefuses() {
        says("set .. of one of PEOPLE becomes v: what it was. BAD.");
        within("what", 0, 7, BAD, (x, v) -> x.set(v, 0, 1));
        int[] size = {0, 64, 64, 4, 4, 4, 4, 4};
        int[] most = {999, 3, 1, 99, 9, 3, 99, 99};
        for (int what = 1; what <= 7; what++) {
            int w = what;
            refused("both of and v", BAD, x -> x.set(w, size[w], most[w] + 1));
        }
        for (int what = 4; what <= 7; what++) {
            due("nobody", new MosaicOfSights().set(what, 0, 0), BAD);
        }
    }

    private static void personRefuses() {
        says("One of PEOPLE: the number. BAD; FULL.");
        within("kind", 0, 5, BAD, (x, v) -> x.person(v, 0, 0));
        within("number", 0, 9, BAD, (x, v) -> x.person(0, v, 0));
        within("colour", 0, 3, BAD, (x, v) -> x.person(0, 0, v));
        refused("kind, ahead of full", BoundsTest::crowded, BAD, x -> x.person(6, 0, 0));
        refused("number, ahead of full", BoundsTest::crowded, BAD, x -> x.person(0, 10, 0));
        refused("colour, ahead of full", BoundsTest::crowded, BAD, x -> x.person(0, 0, -1));
        refused("full", BoundsTest::crowded, FULL, x -> x.person(5, 9, 3));
    }

    private static void toldRefuses() {
        says("What 0 .. 7 as of set(), 8 KIND, 9 NEEDS, 10 GIVES, 11 TURNS of one of PEOPLE. -1000: none such.");
        within("what", 0, 11, NONE_SUCH, (x, v) -> x.told(0, v));
        for (int what = 4; what <= 11; what++) {
            int w = what;
            within("told(" + w + ") of", 0, 3, NONE_SUCH, (x, v) -> x.told(v, w));
            due("nobody", new MosaicOfSights().told(0, what), NONE_SUCH);
            due("the fifth", crowded().told(4, what) == NONE_SUCH ? 1 : 0, 0);
        }
    }

    private static void pictureRefuses() {
        says("CELLS that WANT a COLOUR (what 0 .. 3), that are FILLED (4). NO.");
        within("what", 0, 4, NO, (x, v) -> x.picture(v));
        MosaicOfSights x = new MosaicOfSights();
        due("empty", x.picture(4), 0);
        fillCells(x, 0, 64);
        due("whole", x.picture(4), -1);
        for (int c = 0; c < 64; c++) {
            x.set(1, c, 3);
        }
        due("wanted by none", x.picture(0), 0);
        due("wanted by all", x.picture(3), -1);
    }

    // ---- promises 6 to 8

    private static void tapeBound() {
        says("A byte (0 .. 255) comes behind THE TAPE: how many it has. BAD; FULL. .. THE TAPE (160 bytes at most)");
        within("letter", 0, 255, BAD, (x, v) -> x.feed(v));
        MosaicOfSights x = new MosaicOfSights();
        for (int i = 1; i <= 160; i++) {
            due("so many", x.feed(i), i);
        }
        due("161", x.feed(32), FULL);
        due("160", x.count(4), 160);
        refused("one more", BoundsTest::longTape, FULL, y -> y.feed(';'));
        refused("letter -1, ahead of full", BoundsTest::longTape, BAD, y -> y.feed(-1));
        refused("letter 256, ahead of full", BoundsTest::longTape, BAD, y -> y.feed(256));
        String text = "needs 1;sees 2;turns 3";
        fault(text + " ".repeat(137) + ";", NONE);
        fault(text + " ".repeat(138), 160);
        fault(text + ";" + " ".repeat(136) + ";", 159);
    }

    /** A text as a new object's TAPE has its FAULT at a place (NONE: it has none). */
    private static void fault(String text, int place) {
        MosaicOfSights x = new MosaicOfSights();
        fill(x, text);
        due("text '" + text + "'", x.text(), place == NONE ? 1 : -100 - place);
        due("the tape is empty then", x.count(4), 0);
        due("texts", x.count(3), place == NONE ? 2 : 1);
    }

    private static void everyByte() {
        says("WORDS (a .. z), NUMBERS, SIGNS ( ) ; + - * < = ; blanks (32, 10) may stand between .. a byte that "
                + "begins none");
        for (int b = 0; b < 256; b++) {
            String byteText = String.valueOf((char) b);
            boolean blank = b == 32 || b == 10;
            boolean digit = b >= '0' && b <= '9';
            boolean goesOn = ";+-*<=".indexOf((char) b) >= 0;
            fault("needs 1" + byteText + ";sees 2;turns 3;", blank || digit ? NONE : goesOn ? 8 : 7);
            boolean begins = blank || digit || b == '-';
            fault("needs " + byteText + "1;sees 2;turns 3;", begins ? NONE : b == '(' ? 8 : 6);
            fault(byteText + "needs 1;sees 2;turns 3;", blank ? NONE : 0);
            fault("needs 1;sees 2;turns 3;" + byteText, blank ? NONE : 23);
        }
    }

    private static void digitsBound() {
        says("NUMBERS (as many digits as stand there, 4 at most) .. a NUMBER that is too long");
        String end = ";sees 2;turns 3;";
        fault("needs 9" + end, NONE);
        fault("needs 999" + end, NONE);
        fault("needs 9999" + end, NONE);
        fault("needs 10000" + end, 6);
        fault("needs 0000" + end, NONE);
        fault("needs 00000" + end, 6);
        fault("needs 2147483648" + end, 6);
        fault("needs 99999999999999999999" + end, 6);
        fault("needs 1+12345" + end, 8);
        fault("needs 123 4" + end, 10);
        fault("needs 1;sees 2;turns 12345", 21);
        holds("9999+1=1000*10", true);
        holds("0009=9", true);
    }

    private static void openBound() {
        says("a ( , a not, a - ahead of a ONE while 5 of these are open");
        String end = ";sees 2;turns 3;";
        fault("needs (((((1)))))" + end, NONE);
        fault("needs ((((((1))))))" + end, 11);
        fault("needs -----1" + end, NONE);
        fault("needs ------1" + end, 11);
        fault("needs not not not not not 1" + end, NONE);
        fault("needs not not not not not not 1" + end, 26);
        fault("needs not(not(-1))" + end, NONE);
        fault("needs not(not(--1))" + end, 15);
        fault("needs (((((not 1)))))" + end, 11);
        fault("needs (((((-1)))))" + end, 11);
        fault("needs -----(1)" + end, 11);
        fault("needs not not not not not(1)" + end, 25);
        fault("needs not not not not not-1" + end, 25);
        fault("needs 1;sees (((((1)))));turns -----3;", NONE);
        fault("needs 1;sees 2;turns ((((((1))))));", 26);
        fault("needs 1;sees ------1", 18);
        // A - between TERMS is none of these.
        fault("needs (((((1-1)))))" + end, NONE);
        fault("needs 1------1" + end, NONE);
        fault("needs 1-------1" + end, 13);
        due("five nots", needs("10+(not not not not 0)", LOOKER, 0), 10);
        due("five minuses", needs("10------1", LOOKER, 0), 11);
    }

    private static void openEnds() {
        says("(a ( till its ) , not and - till what they belong to ends)");
        String end = ";sees 2;turns 3;";
        fault("needs (((((1)))))+(((((1)))))" + end, NONE);
        fault("needs (((((1))))+(((((1))))))" + end, 21);
        fault("needs (((((1))))+((((1)))))" + end, NONE);
        fault("needs -1*-----1" + end, NONE);
        fault("needs -1+-----1" + end, NONE);
        fault("needs -(-1)*-----1" + end, NONE);
        fault("needs -(1*----1)" + end, 13);
        fault("needs -(1*---1)" + end, NONE);
        fault("needs not 1*-----1" + end, 16);
        fault("needs not 1*----1" + end, NONE);
        fault("needs not 1<-----1" + end, 16);
        fault("needs not 1<----1" + end, NONE);
        fault("needs not 1=(((((1)))))" + end, 16);
        fault("needs not 1 and -----1" + end, NONE);
        fault("needs not 1 or not not not not not 1" + end, NONE);
        fault("needs not not 1 and not not not not not 1" + end, NONE);
        fault("needs -----1;sees -----1;turns -----1;", NONE);
    }

    private static void endsTooEarly() {
        says("(the text's size, if it ends too early)");
        String whole = "needs (1 ) ;sees not -2 ;turns day < 4 ;";
        fault(whole, NONE);
        int[] cut = {0, 5, 6, 7, 8, 9, 10, 11, 12, 16, 17, 20, 21, 22, 23, 24, 25, 30, 34, 35, 36, 37, 38, 39};
        for (int size : cut) {
            fault(whole.substring(0, size), size);
        }
        says("THE TAPE, which is empty then (by a FAULT, too)");
        fault("", 0);
        fault(" ", 1);
        fault("\n \n", 3);
    }

    private static void firstFault() {
        says("the place of the first byte of the first TOKEN that can't stand there");
        fault("needs ?;sees 12345;turns x;", 6);
        fault("needs 12345 ?;sees 2;turns 3;", 6);
        fault("needs 1;sees x 12345;turns 3;", 13);
        fault("needs 1 2 ?", 8);
        fault("needs ((((((?", 11);
        fault("needs (((((12345", 11);
        fault("needs 1;sees 2;turns 3;needs", 23);
        fault("needs 1;needs 2;turns 3;", 8);
        fault("needs 1;sees 2;sees 3;", 15);
        fault("turns 1;", 0);
        fault("needs 1 sees 2;turns 3;", 8);
        fault("needs or;", 6);
        fault("needs and;", 6);
        fault("needs not;", 9);
        fault("needs turns;", 6);
        fault("needs day day;", 10);
        fault("needs 1=1=1;", 9);
        fault("needs 1<1=1;", 9);
        fault("needs 1<not 1;", 8);
        fault("needs 1*not 1;", 8);
        fault("needs -not 1;", 7);
        fault("needs );", 6);
        fault("needs (;", 7);
        fault("needs (1;", 8);
        fault("needs (1));", 9);
        says("a WORD that is neither KEY nor NAME");
        String[] near = {"looke", "lookeds", "colou", "colours", "numbe", "numbers", "da", "days", "fille", "filleds",
            "bo", "boxe", "x", "daybox", "notday", "need", "needss"};
        for (String word : near) {
            fault("needs " + word + ";sees 2;turns 3;", 6);
            fault("needs not " + word + ";sees 2;turns 3;", 10);
        }
        fault("need 1;sees 2;turns 3;", 0);
        fault("needsx 1;sees 2;turns 3;", 0);
        fault("needs 1;see 2;turns 3;", 8);
        fault("needs 1;sees 2;turn 3;", 15);
    }

    private static void textsBound() {
        says("There are 6 TEXTS at most, TEXT 0 with them. .. FULL (ahead of all): .. (THE TAPE stays)");
        MosaicOfSights x = new MosaicOfSights();
        for (int t = 1; t <= 5; t++) {
            due("its number", write(x, "needs 1" + t + ";sees 0;turns 0;"), t);
            due("so many", x.count(3), t + 1);
        }
        fill(x, "needs 16;sees 0;turns 0;");
        due("no seventh", x.text(), FULL);
        due("the tape stays", x.count(4), 24);
        due("six", x.count(3), 6);
        due("no text 6", x.force(6), BAD);
        x.person(LOOKER, 0, 0);
        for (int t = 5; t >= 1; t--) {
            x.force(t);
            due("text " + t, x.told(0, 9), 10 + t);
        }
        x.force(0);
        due("text 0", x.told(0, 9), 2);
        refused("ahead of a fault", BoundsTest::manyTexts, FULL, y -> y.text());
        MosaicOfSights z = manyTexts();
        due("the tape goes on", z.feed('s'), 5);
        says("a text with a FAULT takes no room");
        MosaicOfSights w = new MosaicOfSights();
        for (int i = 0; i < 8; i++) {
            due("fault", write(w, "?"), -100);
        }
        due("its number", write(w, "needs 9;sees 0;turns 0;"), 1);
        due("fault behind a text", write(w, "needs 8;sees 0;turns 0"), -122);
        w.force(1);
        w.person(LOOKER, 0, 0);
        due("the text stays", w.told(0, 9), 9);
        due("2 isn't there", w.force(2), BAD);
    }

    private static void forceBound() {
        says("A TEXT is THE RULE: which was. BAD.");
        within("text", 0, 2, BAD, (x, v) -> x.force(v));
        MosaicOfSights x = new MosaicOfSights();
        due("1 isn't there", x.force(1), BAD);
        due("0 is", x.force(0), 0);
        MosaicOfSights y = manyTexts();
        due("5 is", y.force(5), 1);
        due("6 isn't", y.force(6), BAD);
        due("5 was", y.force(0), 5);
    }

    // ---- terms 2, promises 9 to 12

    private static void lookedIsBounded() {
        says("LOOKED is 1 more (99 at most)");
        // Only a text can see it: by 99 one gives, and LOOKED is 0 then.
        MosaicOfSights x = withOne("needs 99;sees 0;turns looked-90;", LOOKER, 0, 0);
        x.set(6, 0, 97);
        due("98: no square", x.day(), 0);
        due("98", x.told(0, 6), 98);
        due("99: a square", x.day(), 1);
        due("turned by 99", x.told(0, 5), 1);
        due("0", x.told(0, 6), 0);
        x.set(6, 0, 99);
        due("99 stays: a square", x.day(), 2);
        due("turned by 99, not 100", x.told(0, 5), 1);
        x.set(6, 0, 99);
        due("in thought", x.run(0, 1, 2), 1);
    }

    private static void gaveIsBounded() {
        says("it GAVE 1 more (99 at most)");
        MosaicOfSights x = rag(1);
        x.set(7, 0, 97);
        int[] gave = {98, 99, 99, 99};
        for (int i = 0; i < gave.length; i++) {
            due("in thought", x.run(0, 1, 4), gave[i]);
            due("so many are filled all the same", x.day(), i + 1);
            due("gave", x.told(0, 7), gave[i]);
        }
        x.set(7, 0, 60);
        due("39 more", x.run(0, 39, 4), 99);
        due("40 more", x.run(0, 40, 4), 99);
        due("38 more", x.run(0, 38, 4), 98);
    }

    private static void boxIsBounded() {
        says("else into THE BOX (99 of the COLOUR at most: else it is lost)");
        MosaicOfSights x = rag(2);
        fillColour(x, 2);
        x.set(3, 2, 97);
        x.set(3, 1, 99);
        int[] boxed = {98, 99, 99};
        for (int i = 0; i < boxed.length; i++) {
            due("in thought", x.run(0, 1, 1), boxed[i] + 99);
            due("none is filled", x.day(), 16);
            due("boxed", x.told(2, 3), boxed[i]);
            due("gave, if lost, too", x.told(0, 7), i + 1);
        }
        due("of another colour", x.told(1, 3), 99);
        due("of another colour", x.told(3, 3), 0);
        says("the first CELL that isn't FILLED, and WANTS its COLOUR, if there is one");
        MosaicOfSights y = rag(3);
        fillCells(y, 0, 63);
        due("the last one", y.day(), 64);
        due("no box", y.told(3, 3), 0);
        due("whole: none", y.day(), 64);
        due("box", y.told(3, 3), 1);
        MosaicOfSights z = rag(0);
        z.set(3, 0, 99);
        due("a full box doesn't matter while a cell wants it", z.day(), 1);
    }

    private static void asManyAsNeeded() {
        says("is it as many as it NEEDS, or more");
        for (int looked = 0; looked <= 4; looked++) {
            MosaicOfSights x = withOne("needs 3;sees 0;turns 1;", LOOKER, 0, 0);
            x.set(6, 0, looked);
            due("1 more than " + looked, x.day(), looked + 1 >= 3 ? 1 : 0);
            due("looked", x.told(0, 6), looked + 1 >= 3 ? 0 : looked + 1);
        }
        says("A DAY: of PEOPLE by numbers .. nobody");
        MosaicOfSights x = new MosaicOfSights();
        due("nobody", x.day(), 0);
        due("day", x.count(2), 1);
        MosaicOfSights y = ruled("needs 1;sees 0;turns colour;");
        for (int i = 0; i < 5; i++) {
            y.person(LOOKER, 0, 3);
        }
        due("all five", y.day(), 5);
        due("of each", y.told(4, 7), 1);
    }

    private static void toldInTheMiddleOfADay() {
        says("LOOKED is 1 more ..; is it as many as it NEEDS, or more, then");
        MosaicOfSights x = withOne("needs 9*(looked=0);sees 0;turns 0;", LOOKER, 0, 0);
        due("needs 9 by 0", x.told(0, 9), 9);
        due("needs 1 by 1", x.day(), 1);
        MosaicOfSights y = withOne("needs 9*(looked=1);sees 0;turns 0;", LOOKER, 0, 0);
        due("needs 1 by 0", y.told(0, 9), 1);
        due("needs 9 by 1", y.day(), 0);
        due("needs 1 by 2", y.day(), 1);
        says("(GIVES, TURNS told ahead of what follows)");
        MosaicOfSights z = withOne("needs 1;sees looked+filled+box;turns looked*2+filled+box;", WIFE, 0, 3);
        due("gives by 1 that it looked", z.day(), 1);
        due("cell 1", z.told(1, 2), 1);
        MosaicOfSights w = withOne("needs 1;sees 0;turns looked*2+filled+box;", LOOKER, 0, 1);
        due("gives 1", w.later(1), 2);
        due("turns by 1 that it looked, none that are filled", w.run(0, 1, 2), 2);
        fillColour(w, 1);
        due("boxed", w.run(0, 1, 1), 1);
        due("turns by 16 that are filled, none in the box", w.run(0, 1, 2), 2);
        says("of PEOPLE by numbers (told as all is then)");
        MosaicOfSights v = ruled("needs 1;sees 0;turns filled+2*box;");
        for (int one = 0; one < 3; one++) {
            v.person(LOOKER, 0, 0);
        }
        fillCells(v, 1, 64);
        v.day();
        due("turns by 63", v.told(0, 5), 3);
        due("turns by 64", v.told(1, 5), 0);
        due("turns by 64, 1 in the box", v.told(2, 5), 2);
    }

    private static void lastDay() {
        says("A DAY, truly: how many CELLS are FILLED then. STATE: DAY is 999.");
        MosaicOfSights x = rag(1);
        x.set(0, 0, 997);
        due("997", x.day(), 1);
        due("998", x.day(), 2);
        due("999", x.count(2), 999);
        due("no more", x.day(), STATE);
        due("nothing was filled", x.count(1), 2);
        due("nothing was given", x.told(0, 7), 2);
        refused("999", BoundsTest::onLastDay, STATE, y -> y.day());
        x.set(0, 0, 998);
        due("998 again", x.day(), 3);
    }

    private static void inThoughtBeyondLastDay() {
        says("n DAYS (0 .. 40), in thought (there DAY may pass 999)");
        // Turns to 1 by DAY 999, to 2 by DAY 1000: only a DAY that passes 999 fills CELL 1, then 2.
        MosaicOfSights x = withOne("needs 1;sees 0;turns 1+(999<day);", LOOKER, 0, 0);
        x.set(0, 0, 999);
        due("run 1", x.run(0, 1, 2), 1);
        due("run 2", x.run(0, 2, 2), 2);
        due("run 3", x.run(0, 3, 0), 3);
        due("later", x.later(3), 7);
        due("film", x.film(0, 20), 20);
        due("as filmed", x.tells(0, 0, 0), NONE);
        due("at what", x.atWhat(0, 40, 1), 18);
        due("drawn", x.drawn(5, 3), 3);
        due("day stays", x.count(2), 999);
        due("no day", x.day(), STATE);
        says("GIVES .. in odd DAYS, beyond 999");
        MosaicOfSights y = withOne("needs 0;sees 1;turns 0;", DEACON, 0, 0);
        for (int d = 999; d >= 996; d--) {
            y.set(0, 0, d);
            y.set(6, 0, 2);
            due("day " + d, y.later(1), d % 2 == 1 ? 2 : 1);
            due("3 days on", y.later(4), d % 2 == 1 ? 3 : 3);
        }
        keepsAll("run(0, 40, 0)", z -> z.run(0, 40, 0));
        keepsAll("later(40)", z -> z.later(40));
        keepsAll("ends()", z -> z.ends());
    }

    /** DAY 999, CELLS 0, 1, 2 are empty: they are filled in 3 DAYS if, and only if, DAY passes 999 in thought. */
    private static MosaicOfSights threeLeftOnLastDay() {
        MosaicOfSights x = withOne("needs 1;sees 0;turns 1+(999<day);", LOOKER, 0, 0);
        x.set(0, 0, 999);
        fillCells(x, 3, 64);
        return x;
    }

    private static void searchesBeyondLastDay() {
        says("(there DAY may pass 999): ends, want, idle, atWhat, tells, chance");
        MosaicOfSights x = threeLeftOnLastDay();
        due("ends", x.ends(), 3);
        due("want: none is better", x.want(3, 0), NONE);
        due("want: as so", x.want(3, 1), 64);
        x.set(1, 2, 3);
        due("want: cell 2, the colour of day 1001", x.want(3, 0), 22);
        due("want: 1 more", x.want(3, 1), 64);
        x.set(1, 2, 2);
        due("at 0", x.atWhat(0, 3, 0), 0);
        due("64", x.atWhat(0, 3, 1), 64);
        row(x, 0, 0, 62, 63, 64);
        due("tells", x.tells(0, 0, 0), NONE);
        due("by text 1", x.tells(0, 0, 6), 2);
        x.person(RAG, 2, 0);
        due("the other is idle", x.idle(3), 1);
        due("day stays", x.count(2), 999);
        MosaicOfSights y = withOne("needs 1;sees 0;turns 0;", LOOKER, 0, 0);
        write(y, "needs 1+98*(day<1000);sees 0;turns colour;");
        y.force(2);
        y.set(0, 0, 999);
        fillCells(y, 0, 64);
        y.set(2, 0, 0);
        int good = 0;
        for (int seed = 0; seed < 20; seed++) {
            good += drawnWants(seed)[0] == 0 ? 1 : 0;
        }
        due("some, not all", good > 0 && good < 20 ? 1 : 0, 1);
        due("chance", y.chance(0, 20, 64, 0) * 20, good * y.chance(0, 20, 64, 1));
    }

    private static void daysGoOnWhenWhole() {
        says("A DAY, when it is WHOLE: squares go into THE BOX, all look on");
        MosaicOfSights x = withOne("needs 2;sees 0;turns colour+1;", LOOKER, 0, 0);
        fillCells(x, 0, 64);
        int[] box = {0, 0, 1, 1, 2};
        for (int n = 0; n < box.length; n++) {
            due("filled", x.run(0, n, 0), 64);
            due("box", x.run(0, n, 1), box[n]);
            due("looks at", x.run(0, n, 2), box[n]);
            due("looked", x.run(0, n, 3), n % 2);
            due("gave", x.run(0, n, 4), box[n]);
            due("later", x.later(n), -1);
        }
        due("20 in 40 days", x.run(0, 40, 1), 20);
        due("day", x.day(), 64);
        due("looked", x.told(0, 6), 1);
    }

    private static void runBounds() {
        says("n DAYS: how many are FILLED (what 0), .. GAVE (4). BAD.");
        within("one", 0, 3, BAD, (x, v) -> x.run(v, 3, 4));
        within("n", 0, 40, BAD, (x, v) -> x.run(1, v, 0));
        within("what", 0, 4, BAD, (x, v) -> x.run(1, 1, v));
        due("nobody", new MosaicOfSights().run(0, 1, 0), BAD);
        due("the fifth", crowded().run(4, 0, 2), 2);
        MosaicOfSights x = rag(1);
        int[] n = {0, 1, 16, 17, 39, 40};
        for (int days : n) {
            due(days + " days: filled", x.run(0, days, 0), Math.min(16, days));
            due(days + " days: box", x.run(0, days, 1), Math.max(0, days - 16));
            due(days + " days: gave", x.run(0, days, 4), days);
        }
    }

    private static void laterBounds() {
        says("n DAYS: which are FILLED. NO: n.");
        within("n", 0, 40, NO, (x, v) -> x.later(v));
        MosaicOfSights x = rag(1);
        for (int c = 0; c < 64; c++) {
            x.set(1, c, 1);
        }
        due("0", x.later(0), 0);
        due("1", x.later(1), 1);
        due("39", x.later(39), (1L << 39) - 1);
        due("40", x.later(40), (1L << 40) - 1);
        fillCells(x, 0, 24);
        due("whole, with bit 63", x.later(40), -1);
    }

    private static void endsBounds() {
        says("ENDS: behind how many DAYS (0 .. 60) it is WHOLE first; NONE.");
        MosaicOfSights x = rag(1);
        for (int c = 0; c < 64; c++) {
            x.set(1, c, 1);
        }
        fillCells(x, 0, 3);
        due("61 are too many", x.ends(), NONE);
        x.set(2, 3, 1);
        due("60", x.ends(), 60);
        x.set(2, 4, 1);
        due("59", x.ends(), 59);
        fillCells(x, 5, 63);
        due("1", x.ends(), 1);
        x.set(2, 63, 1);
        due("0: whole", x.ends(), 0);
        x.set(2, 63, 0);
        x.set(1, 63, 0);
        due("never", x.ends(), NONE);
        MosaicOfSights y = new MosaicOfSights();
        due("nobody", y.ends(), NONE);
        fillCells(y, 0, 64);
        due("nobody, whole", y.ends(), 0);
        MosaicOfSights z = rag(1);
        z.set(0, 0, 999);
        fillCells(z, 0, 61);
        z.set(1, 63, 1);
        z.set(1, 62, 1);
        due("beyond day 999", z.ends(), 3);
    }

    // ---- promises 13 to 17

    private static void atWhatBounds() {
        says("AT WHAT (what 0), how many (1). BAD. .. (one, n 0 .. 40)");
        within("one", 0, 3, BAD, (x, v) -> x.atWhat(v, 3, 1));
        within("n", 0, 40, BAD, (x, v) -> x.atWhat(0, v, 1));
        within("what", 0, 1, BAD, (x, v) -> x.atWhat(0, 3, v));
        due("nobody", new MosaicOfSights().atWhat(0, 0, 0), BAD);
        keepsAll("atWhat", x -> x.atWhat(2, 20, 0));
        MosaicOfSights x = withOne("needs 1;sees 0;turns colour;", LOOKER, 0, 1);
        due("0 days: like ones", x.atWhat(0, 0, 0), 0);
        due("0 days: as so", x.atWhat(0, 0, 1), 0);
        for (int c = 0; c < 64; c++) {
            x.set(1, c, c < 39 ? 2 : c < 63 ? 1 : 3);
        }
        due("24 days: 1 and 2 are alike", x.atWhat(0, 24, 0), 1);
        due("25 days", x.atWhat(0, 25, 0), 2);
        due("39 days", x.atWhat(0, 39, 1), 39);
        due("40 days", x.atWhat(0, 40, 1), 39);
        x.set(1, 63, 2);
        due("40 days fill 40", x.atWhat(0, 40, 1), 40);
        fillCells(x, 0, 64);
        due("whole: the first", x.atWhat(0, 40, 0), 0);
        due("whole: 64", x.atWhat(0, 40, 1), 64);
        fillCells(x, 0, 63);
        x.set(2, 63, 0);
        x.set(1, 63, 3);
        due("the last colour", x.atWhat(0, 1, 0), 3);
    }

    private static void atWhatLookedStays() {
        says("the COLOUR such that, did it look AT that now (LOOKED stays)");
        MosaicOfSights x = withOne("needs 9;sees 0;turns 0;", LOOKER, 0, 0);
        x.set(6, 0, 7);
        due("1 day", x.atWhat(0, 1, 1), 0);
        due("2 days", x.atWhat(0, 2, 1), 1);
        due("10 days", x.atWhat(0, 10, 1), 1);
        due("11 days", x.atWhat(0, 11, 1), 2);
    }

    private static void wantBounds() {
        says("WANT (n 1 .. 20) .. WANT (what 0; NONE), how many (1; as so). BAD.");
        within("n", 1, 20, BAD, (x, v) -> x.want(v, 1));
        within("what", 0, 1, BAD, (x, v) -> x.want(3, v));
        keepsAll("want", x -> x.want(5, 0));
        MosaicOfSights x = rag(2);
        for (int c = 0; c < 64; c++) {
            x.set(1, c, c < 19 ? 2 : 0);
        }
        due("19 days: no better", x.want(19, 0), NONE);
        due("19 days: as so", x.want(19, 1), 19);
        due("20 days: the first cell that isn't so", x.want(20, 0), 192);
        due("20 days: 1 more", x.want(20, 1), 20);
        x.set(1, 63, 2);
        due("20 days: no better", x.want(20, 0), NONE);
        due("20 days: as so", x.want(20, 1), 20);
        MosaicOfSights y = new MosaicOfSights();
        due("nobody", y.want(1, 0), NONE);
        due("nobody, as so", y.want(1, 1), 0);
        fillCells(y, 0, 64);
        y.person(RAG, 0, 0);
        due("whole", y.want(20, 0), NONE);
        due("whole, as so", y.want(20, 1), 64);
    }

    private static void wantOnlyIfMore() {
        says("10 times a CELL that isn't FILLED, and a COLOUR .. of like ones the first by CELLS, then COLOURS");
        MosaicOfSights x = rag(3);
        for (int c = 0; c < 64; c++) {
            x.set(1, c, 1);
        }
        fillCells(x, 0, 63);
        due("cell 63, colour 3", x.want(1, 0), 633);
        due("64", x.want(1, 1), 64);
        x.set(2, 0, 0);
        due("cell 0, colour 3", x.want(1, 0), 3);
        x.person(RAG, 2, 0);
        due("colours 2 and 3 are alike", x.want(1, 0), 2);
        due("one only", x.want(20, 1), 63);
        MosaicOfSights y = rag(0);
        for (int c = 0; c < 64; c++) {
            y.set(1, c, 1);
        }
        fillCells(y, 1, 64);
        due("cell 0, colour 0", y.want(1, 0), 0);
        y.set(2, 0, 1);
        due("whole", y.want(1, 0), NONE);
    }

    private static void wantByCellsThenColours() {
        says("of like ones the first by CELLS, then COLOURS");
        // The MONK fills the first empty CELL whatever it WANTS, so that just RAG 3, ahead of it, makes CELL 0 worth a
        // wish, while RAG 0, behind it, makes a lower COLOUR of CELL 1 worth as much.
        MosaicOfSights x = rag(3);
        x.person(MONK, 0, 0);
        x.person(RAG, 0, 0);
        x.set(6, 1, 1);
        fillCells(x, 3, 64);
        x.set(1, 0, 1);
        x.set(1, 1, 2);
        x.set(1, 2, 2);
        due("as so", x.run(0, 1, 0), 62);
        due("1 more", x.want(1, 1), 63);
        due("cell 0 by colour 3, ahead of cell 1 by colour 0", x.want(1, 0), 3);
        x.set(1, 1, 0);
        due("cell 1 by colour 0 would be as many", x.run(0, 1, 0), 63);
    }

    private static void idleBounds() {
        says("IDLE (n 0 .. 40) .. of like ones the first; NONE. .. BAD; NONE.");
        within("n", 0, 40, BAD, (x, v) -> x.idle(v));
        keepsAll("idle", x -> x.idle(30));
        MosaicOfSights x = new MosaicOfSights();
        due("nobody", x.idle(0), NONE);
        due("nobody", x.idle(40), NONE);
        for (int i = 0; i < 4; i++) {
            x.person(RAG, i, 0);
        }
        due("0 days: the first", x.idle(0), 0);
        due("1 day: all are needed", x.idle(1), NONE);
        x.person(RAG, 3, 0);
        due("15 days: all are needed", x.idle(15), NONE);
        due("16 days: 3 and 4 are alike", x.idle(16), 3);
        fillCells(x, 0, 64);
        due("whole: the first", x.idle(40), 0);
        MosaicOfSights y = new MosaicOfSights();
        y.person(RAG, 1, 0);
        y.person(LOOKER, 0, 0);
        fillColour(y, 1);
        due("gives, but only to the box", y.idle(40), 0);
        MosaicOfSights z = withOne("needs 40;sees 0;turns 0;", LOOKER, 0, 0);
        due("39 days", z.idle(39), 0);
        due("40 days", z.idle(40), NONE);
    }

    private static void gapEdges() {
        says("GAP (what 0; NONE), how long (1; 0), PATCH: how many (2), COLOURS (3; bits). BAD.");
        within("what", 0, 3, BAD, (x, v) -> x.gap(v));
        MosaicOfSights x = new MosaicOfSights();
        due("empty", x.gap(0), 0);
        due("empty: 64", x.gap(1), 64);
        x.set(2, 63, 1);
        due("but the last", x.gap(0), 0);
        due("but the last: 63", x.gap(1), 63);
        x.set(2, 63, 0);
        x.set(2, 0, 1);
        due("but the first", x.gap(0), 1);
        due("but the first: 63", x.gap(1), 63);
        fillCells(x, 0, 64);
        due("whole", x.gap(0), NONE);
        due("whole: 0", x.gap(1), 0);
        x.set(2, 63, 0);
        due("the last alone", x.gap(0), 63);
        due("the last alone: 1", x.gap(1), 1);
        x.set(2, 0, 0);
        due("no row goes round from the last to the first", x.gap(1), 1);
        due("of like ones the first", x.gap(0), 0);
        x.set(2, 62, 0);
        due("the longest, at the end", x.gap(0), 62);
        due("the longest, at the end: 2", x.gap(1), 2);
    }

    private static void patchEdges() {
        says("PATCH: how many CELLS that aren't FILLED THE BOX could fill now; which COLOURS are wanted by no CELL");
        MosaicOfSights x = new MosaicOfSights();
        due("an empty box", x.gap(2), 0);
        due("all are wanted", x.gap(3), 0);
        x.set(3, 1, 15);
        due("15", x.gap(2), 15);
        x.set(3, 1, 16);
        due("16", x.gap(2), 16);
        x.set(3, 1, 17);
        due("no more than want it", x.gap(2), 16);
        for (int colour = 0; colour < 4; colour++) {
            x.set(3, colour, 99);
        }
        due("all", x.gap(2), 64);
        fillCells(x, 0, 64);
        due("whole", x.gap(2), 0);
        due("whole: no colour", x.gap(3), 15);
        x.set(2, 63, 0);
        due("the last", x.gap(2), 1);
        due("but the last's", x.gap(3), 7);
        x.set(3, 3, 0);
        due("not of another colour", x.gap(2), 0);
        x.set(2, 0, 0);
        due("but the first's and the last's", x.gap(3), 6);
    }

    private static void shareEdges() {
        says("SHARE: part 0 above, 1 below the line, in lowest terms. NO: part, none were GIVEN.");
        within("part", 0, 1, NO, (x, v) -> x.share(v));
        MosaicOfSights x = new MosaicOfSights();
        due("nobody", x.share(0), NO);
        for (int i = 0; i < 5; i++) {
            x.person(LOOKER, 0, 0);
        }
        fillCells(x, 0, 64);
        due("none were given, above", x.share(0), NO);
        due("none were given, below", x.share(1), NO);
        due("nor is there a part", x.share(2), NO);
        x.set(7, 4, 1);
        due("64 of 1", x.share(0), 64);
        due("64 of 1", x.share(1), 1);
        for (int i = 0; i < 5; i++) {
            x.set(7, i, 99);
        }
        due("64 of 495", x.share(0), 64);
        due("64 of 495", x.share(1), 495);
        fillCells(x, 0, 64);
        for (int c = 45; c < 64; c++) {
            x.set(2, c, 0);
        }
        due("45 of 495", x.share(0), 1);
        due("45 of 495", x.share(1), 11);
        for (int c = 0; c < 45; c++) {
            x.set(2, c, 0);
        }
        due("0 of 495", x.share(0), 0);
        due("0 of 495", x.share(1), 1);
    }

    // ---- promises 18 to 24

    private static void tellsRefuses() {
        says("BAD: SHEET, none such, what; -11; BAD: it tells more than 20.");
        within("sheet", 0, 3, BAD, (x, v) -> x.tells(v, 0, 0));
        within("one", 0, 3, BAD, (x, v) -> x.tells(0, v, 0));
        within("what", 0, 6, BAD, (x, v) -> x.tells(0, 0, v));
        refused("missing", NOTHING, x -> x.tells(3, 0, 0));
        refused("one, ahead of missing", BAD, x -> x.tells(3, 4, 0));
        refused("what, ahead of missing", BAD, x -> x.tells(3, 0, 7));
        due("nobody, ahead of missing", new MosaicOfSights().tells(0, 0, 0), BAD);
        for (int what = 0; what <= 6; what++) {
            int w = what;
            refused("missing, what " + w, NOTHING, x -> x.tells(3, 3, w));
            keepsAll("tells " + w, x -> x.tells(1, 1, w));
        }
    }

    private static void tellsTwenty() {
        says("a SHEET tells how many CELLS are FILLED behind 1, 2, .. DAYS (20 at most)");
        for (int sort = 0; sort < 3; sort++) {
            MosaicOfSights x = rag(1);
            x.sheet(0, sort, 20);
            for (int i = 0; i < 20; i++) {
                x.cell(0, i, Math.min(16, i + 1));
            }
            due("20", x.tells(0, 0, 0), NONE);
            x.cell(0, 19, 17);
            due("the twentieth", x.tells(0, 0, 0), 19);
            due("by no number", x.tells(0, 0, 2), 0);
            x.cell(0, 0, 0);
            due("the first", x.tells(0, 0, 0), 0);
            for (int n : new int[] {21, 40}) {
                x.sheet(0, sort, n);
                for (int what = 0; what <= 6; what++) {
                    due(n + " are too many", x.tells(0, 0, what), BAD);
                }
            }
        }
    }

    private static void tellsEdges() {
        says("an empty SHEET: nothing is otherwise");
        MosaicOfSights x = rag(1);
        x.sheet(2, 1, 0);
        int[] dues = {NONE, 63, 1023, 15, 100, 0, 1};
        for (int what = 0; what <= 6; what++) {
            due("what " + what, x.tells(2, 0, what), dues[what]);
        }
        says("the first (from 0) that is otherwise; NONE; .. how long: how many (4), the least (5; NONE)");
        row(x, 2, 1, 64);
        int[] none = {0, 0, 0, 0, 0, NONE, 0};
        for (int what = 0; what <= 6; what++) {
            due("never so, what " + what, x.tells(2, 0, what), none[what]);
        }
        row(x, 2, 0, 255);
        due("a byte of 255 is -1", x.tells(2, 0, 0), 0);
        says("TEXTS (bits), were they THE RULE: 6 of them");
        MosaicOfSights y = new MosaicOfSights();
        for (int t = 1; t <= 5; t++) {
            write(y, "needs " + (t == 5 ? 1 : 3) + ";sees 0;turns 0;");
        }
        y.person(LOOKER, 0, 0);
        row(y, 0, 0, 1, 2);
        due("text 5", y.tells(0, 0, 6), 32);
        row(y, 0, 0, 0, 1);
        due("text 0", y.tells(0, 0, 6), 1);
        row(y, 0, 0, 0, 0);
        due("texts 1 to 4", y.tells(0, 0, 6), 30);
        row(y, 0, 0, 0, 0, 1);
        due("the rule is still text 0", y.tells(0, 0, 0), 1);
    }

    private static void tellsOfLooked() {
        says("how long it could have LOOKED (of 0 .. 99: how many, the least)");
        MosaicOfSights x = withOne("needs 99;sees 0;turns 0;", LOOKER, 0, 0);
        row(x, 0, 0, 1);
        due("98 and 99", x.tells(0, 0, 4), 2);
        due("98 is the least", x.tells(0, 0, 5), 98);
        row(x, 0, 0, 0);
        due("0 .. 97", x.tells(0, 0, 4), 98);
        due("0 is the least", x.tells(0, 0, 5), 0);
        says("KINDS (bits 0 .. 5), NUMBERS (bits 0 .. 9), COLOURS (bits 0 .. 3)");
        MosaicOfSights y = withOne("needs 9;sees 0;turns 0;", RAG, 9, 0);
        row(y, 0, 0, 1);
        due("the rag alone gives on the first day", y.tells(0, 0, 1), 32);
        MosaicOfSights z = withOne("needs 1;sees 0;turns colour;", BOY, 0, 0);
        z.set(6, 0, 8);
        row(z, 0, 0, 0);
        due("number 9 alone waits", z.tells(0, 0, 2), 512);
        row(z, 0, 0, 1);
        due("numbers 0 to 8 don't", z.tells(0, 0, 2), 511);
        fillCells(z, 0, 64);
        z.set(2, 0, 0);
        row(z, 0, 0, 64);
        due("a boy at 3 gives 0", z.tells(0, 0, 3), 8);
        row(z, 0, 0, 63);
        due("the others don't", z.tells(0, 0, 3), 7);
    }

    private static void tellsLookedStays() {
        says("of one of PEOPLE KINDS, NUMBERS, COLOURS it could look AT (LOOKED stays)");
        MosaicOfSights x = withOne("needs 9;sees 0;turns 0;", LOOKER, 0, 0);
        x.set(6, 0, 7);
        row(x, 0, 0, 0, 1);
        due("a looker, and a boy of number 0", x.tells(0, 0, 1), 5);
        due("all numbers", x.tells(0, 0, 2), 1023);
        due("all colours", x.tells(0, 0, 3), 15);
        due("7 alone", x.tells(0, 0, 4), 1);
        due("7", x.tells(0, 0, 5), 7);
        due("by text 1", x.tells(0, 0, 6), 2);
    }

    private static void filmBounds() {
        says("A SHEET truly becomes how many .. (n 0 .. 20; bytes): n. BAD.");
        within("sheet", 0, 3, BAD, (x, v) -> x.film(v, 2));
        within("n", 0, 20, BAD, (x, v) -> x.film(0, v));
        refused("n, of a missing sheet", BAD, x -> x.film(3, 21));
        refused("both", BAD, x -> x.film(4, 21));
        MosaicOfSights x = rag(1);
        for (int n : new int[] {20, 1, 0}) {
            due("film", x.film(1, n), n);
            due("so long", x.copy(1, 0, 1, 0, n), n);
            due("no longer", x.copy(1, 0, 1, 0, n + 1), OUTSIDE);
            due("bytes", x.exarchate(1, 0, 0, 0), 0);
            due("as it will be", x.tells(1, 0, 0), NONE);
        }
        due("no day is gone", x.count(2), 0);
        x.sheet(2, 2, 40);
        due("of ints", x.film(2, 3), 3);
        due("bytes now", x.exarchate(2, 0, 0, 0), 0);
        due("3 now", x.cell(2, 3, 0), OUTSIDE);
        row(x, 3, 0, 1, 2, 3);
        due("like a row that was put", x.copy(3, 0, 2, 0, 3), 3);
        due("as filmed", x.tells(2, 0, 0), NONE);
        MosaicOfSights y = new MosaicOfSights();
        due("nobody", y.film(0, 20), 20);
        fillCells(y, 0, 64);
        due("nobody, whole", y.film(0, 1), 1);
        y.person(LOOKER, 0, 0);
        due("64 is told", y.tells(0, 0, 0), NONE);
    }

    private static void drawnBounds() {
        says("DRAWN. BAD: n. .. behind n DAYS (0 .. 40) then, in thought");
        within("n", 0, 40, BAD, (x, v) -> x.drawn(3, v));
        keepsAll("drawn", x -> x.drawn(-8, 40));
        for (int seed : new int[] {0, -1, LOW, HIGH}) {
            due("seed " + seed + ", nobody", new MosaicOfSights().drawn(seed, 40), 0);
            // The MONK gives what is wanted, each DAY.
            MosaicOfSights x = withOne("needs 1;sees 0;turns 0;", MONK, 0, 0);
            x.set(3, 0, 1);
            due("0 days", x.drawn(seed, 0), 0);
            due("1 day", x.drawn(seed, 1), 1);
            due("39 days", x.drawn(seed, 39), 39);
            due("40 days", x.drawn(seed, 40), 40);
            fillCells(x, 0, 64);
            due("whole", x.drawn(seed, 40), 64);
        }
    }

    /** What CELLS WANT when drawn, reckoned with longs, cut to 32 bits by a mask. */
    private static int[] drawnWants(int seed) {
        long z = seed & 0xFFFFFFFFL;
        int[] wants = new int[64];
        for (int c = 0; c < 64; c++) {
            z = (z * 1103515245L + 12345L) & 0xFFFFFFFFL;
            wants[c] = (int) ((z >> 9) % 4);
        }
        return wants;
    }

    private static void drawnWraps() {
        says("(z >>> 9) % 4, z being z * 1103515245 + 12345 (an int; SEED at first) anew for each");
        for (int seed : new int[] {0, 1, -1, 2, LOW, LOW + 1, HIGH, HIGH - 1, 1103515245, -12345}) {
            int[] wants = drawnWants(seed);
            MosaicOfSights x = rag(0);
            fillCells(x, 0, 64);
            for (int c = 0; c < 64; c++) {
                x.set(2, c, 0);
                x.set(4, 0, wants[c]);
                due("seed " + seed + ", cell " + c, x.drawn(seed, 1), 64);
                x.set(4, 0, (wants[c] + 1) % 4);
                due("seed " + seed + ", cell " + c + ", another colour", x.drawn(seed, 1), 63);
                x.set(2, c, 1);
            }
        }
    }

    private static void chanceBounds() {
        says("IN m seeds (1 .. 20) .. k (0 .. 64) or more .. NO: m, k, part.");
        within("m", 1, 20, NO, (x, v) -> x.chance(3, v, 5, 0));
        within("k", 0, 64, NO, (x, v) -> x.chance(3, 5, v, 0));
        within("part", 0, 1, NO, (x, v) -> x.chance(3, 5, 5, v));
        refused("all", NO, x -> x.chance(3, 0, 65, 2));
        keepsAll("chance", x -> x.chance(7, 20, 12, 1));
        MosaicOfSights x = new MosaicOfSights();
        due("0 or more, above", x.chance(9, 20, 0, 0), 1);
        due("0 or more, below", x.chance(9, 20, 0, 1), 1);
        due("none of 20, above", x.chance(9, 20, 1, 0), 0);
        due("none of 20, below", x.chance(9, 20, 1, 1), 1);
        fillCells(x, 0, 63);
        due("63 or more", x.chance(9, 1, 63, 0), 1);
        due("64 or more", x.chance(9, 1, 64, 0), 0);
        x.set(2, 63, 1);
        due("64 or more", x.chance(9, 1, 64, 0), 1);
    }

    private static void chanceTwelveDays() {
        says("12 DAYS");
        MosaicOfSights x = withOne("needs 1;sees 0;turns 0;", MONK, 0, 0);
        x.set(3, 0, 1);
        due("11", x.chance(0, 20, 11, 0), 1);
        due("12", x.chance(0, 20, 12, 0), 1);
        due("13", x.chance(0, 20, 13, 0), 0);
        x.set(0, 0, 999);
        due("12, beyond day 999", x.chance(0, 20, 12, 0), 1);
    }

    /** Of m seeds from one on those by which the only empty CELL WANTS the COLOUR that is given. */
    private static int goodSeeds(int seed, int m, int cell, int colour) {
        int good = 0;
        for (int i = 0; i < m; i++) {
            good += drawnWants((int) (seed + (long) i))[cell] == colour ? 1 : 0;
        }
        return good;
    }

    private static void chanceSeedsWrap() {
        says("SEED and each 1 more (an int)");
        for (int seed : new int[] {0, -1, -10, HIGH, HIGH - 1, HIGH - 9, HIGH - 19, LOW, 77}) {
            for (int colour = 0; colour < 4; colour++) {
                MosaicOfSights x = rag(colour);
                fillCells(x, 0, 64);
                x.set(2, 40, 0);
                for (int m = 1; m <= 20; m++) {
                    int good = goodSeeds(seed, m, 40, colour);
                    int common = java.math.BigInteger.valueOf(good).gcd(java.math.BigInteger.valueOf(m)).intValue();
                    due(m + " seeds from " + seed + ", above", x.chance(seed, m, 64, 0), good / common);
                    due(m + " seeds from " + seed + ", below", x.chance(seed, m, 64, 1), m / common);
                }
            }
        }
    }

    private static void imageEdges() {
        says("All that it keeps is as in THE IMAGE: how many PEOPLE. STATE: there is none.");
        due("there is none", new MosaicOfSights().back(), STATE);
        MosaicOfSights u = unimaged();
        due("there is none", u.back(), STATE);
        u.image();
        MosaicOfSights v = unimaged();
        v.image();
        due("nothing was changed", found(u).equals(found(v)) ? 1 : 0, 1);
        MosaicOfSights x = new MosaicOfSights();
        due("of nobody", x.image(), 0);
        for (int i = 0; i < 5; i++) {
            x.person(RAG, i, 0);
        }
        x.day();
        due("to nobody", x.back(), 0);
        due("nobody", x.count(0), 0);
        due("empty", x.count(1), 0);
        due("room for five again", x.person(LOOKER, 3, 1), 0);
        due("gave none", x.told(0, 7), 0);
        due("again", x.back(), 0);
        says("(PEOPLE that came since go)");
        MosaicOfSights y = crowded();
        due("of five", y.image(), 5);
        y.set(4, 4, 0);
        y.set(5, 4, 3);
        y.set(6, 4, 9);
        y.set(7, 4, 9);
        due("to five", y.back(), 5);
        due("number", y.told(4, 4), 8);
        due("looks at", y.told(4, 5), 2);
        due("looked", y.told(4, 6), 0);
        due("gave", y.told(4, 7), 0);
        due("still full", y.person(0, 0, 0), FULL);
        says("AN IMAGE keeps .. (TEXTS, THE TAPE and SHEETS are not named)");
        MosaicOfSights z = new MosaicOfSights();
        z.image();
        write(z, "needs 9;sees 0;turns 0;");
        z.force(1);
        z.feed('n');
        z.sheet(0, 0, 1);
        z.back();
        due("the rule", z.count(5), 0);
        due("texts", z.count(3), 2);
        due("tape", z.count(4), 1);
        due("sheet", z.cell(0, 0, 0), 1);
        due("image keeps now as it is", z.image(), 0);
    }

    private static void countBounds() {
        says("How many: 0 PEOPLE, .. 5 THE RULE. BAD.");
        within("what", 0, 5, BAD, (x, v) -> x.count(v));
        MosaicOfSights x = crowded();
        due("five", x.count(0), 5);
        fillCells(x, 0, 64);
        due("whole", x.count(1), 64);
        x.set(0, 0, 999);
        due("the last day", x.count(2), 999);
        MosaicOfSights y = manyTexts();
        due("six", y.count(3), 6);
        y.force(5);
        due("the last text", y.count(5), 5);
        due("a full tape", longTape().count(4), 160);
    }

    // ---- promises 25 to 29

    private static void sheetBounds() {
        says("A SHEET becomes a row of n of a sort, all 0, or missing (sort -1: n does not matter): 1.");
        within("sheet", 0, 3, BAD, (x, v) -> x.sheet(v, 0, 3));
        within("sort", -1, 2, BAD, (x, v) -> x.sheet(0, v, 3));
        for (int sort = 0; sort < 3; sort++) {
            for (int n : new int[] {40, 39, 1, 0}) {
                MosaicOfSights x = new MosaicOfSights();
                due("n " + n, x.sheet(3, sort, n), 1);
                due("the last", x.cell(3, n - 1, 7), n == 0 ? OUTSIDE : 1);
                due("behind it", x.cell(3, n, 7), OUTSIDE);
                due("so long", x.copy(3, 0, 3, 0, n), n);
                due("of the sort", x.exarchate(3, sort, 0, 0), 0);
                due("of no other", x.exarchate(3, (sort + 1) % 3, 0, 0), OTHER_SORT);
            }
        }
        for (int n : new int[] {-1, 0, 40, 41, LOW, HIGH}) {
            MosaicOfSights x = some();
            due("missing", x.sheet(0, -1, n), 1);
            due("is missing", x.cell(0, 0, 0), NOTHING);
            due("missing again", x.sheet(0, -1, n), 1);
            due("the others stay", x.copy(1, 0, 1, 0, 4), 4);
        }
        says("all 0");
        MosaicOfSights x = new MosaicOfSights();
        row(x, 0, 2, 9, 9, 9);
        x.sheet(0, 2, 3);
        due("all are", x.exarchate(0, 2, 0, 1), 1);
        due("number 0", x.told(0, 4), 0);
        row(x, 0, 1, 9, 9, 9);
        x.sheet(0, -1, 0);
        x.sheet(0, 1, 3);
        due("all are, though it was missing", x.exarchate(0, 1, 0, 1), 1);
    }

    private static void sheetWhichRefusal() {
        says("BAD: no such SHEET, sort; n above 40; -14.");
        for (int sort = 0; sort < 3; sort++) {
            int s = sort;
            refused("n 41", BAD, x -> x.sheet(1, s, 41));
            refused("n HIGH", BAD, x -> x.sheet(1, s, HIGH));
            refused("n -1", BELOW_ZERO, x -> x.sheet(1, s, -1));
            refused("n LOW", BELOW_ZERO, x -> x.sheet(1, s, LOW));
            refused("n -1, of a missing one", BELOW_ZERO, x -> x.sheet(3, s, -1));
        }
        refused("sheet 4, ahead of n -1", BAD, x -> x.sheet(4, 0, -1));
        refused("sheet -1, ahead of n -1", BAD, x -> x.sheet(-1, 0, -1));
        refused("sheet 4, with sort -1", BAD, x -> x.sheet(4, -1, 0));
        refused("sort 3, ahead of n -1", BAD, x -> x.sheet(0, 3, -1));
        refused("sort -2, ahead of n -1", BAD, x -> x.sheet(0, -2, -1));
    }

    private static void cellBounds() {
        says("Item i of a SHEET becomes v .. BAD: no such SHEET; -11; -12.");
        within("sheet", 0, 2, BAD, (x, v) -> x.cell(v == 3 ? 4 : v, 0, 3));
        within("i", 0, 2, OUTSIDE, (x, v) -> x.cell(0, v, 1));
        refused("missing", NOTHING, x -> x.cell(3, 0, 1));
        refused("missing, ahead of a place outside", NOTHING, x -> x.cell(3, -1, 1));
        refused("missing, ahead of a place outside", NOTHING, x -> x.cell(3, 40, 1));
        refused("sheet, ahead of all", BAD, x -> x.cell(4, -1, 1));
        MosaicOfSights x = new MosaicOfSights();
        x.sheet(0, 0, 0);
        due("an empty one", x.cell(0, 0, 1), OUTSIDE);
        x.sheet(0, 0, 40);
        due("39", x.cell(0, 39, 1), 1);
        due("40", x.cell(0, 40, 1), OUTSIDE);
    }

    /** An item, found as how many CELLS are FILLED (0 .. 64), or NONE. */
    private static int item(int sort, int v) {
        MosaicOfSights x = new MosaicOfSights();
        x.person(LOOKER, 0, 0);
        row(x, 0, sort, v);
        for (int many = 0; many <= 64; many++) {
            if (x.tells(0, 0, 0) == NONE) {
                return many;
            }
            x.set(2, many < 64 ? many : 0, 1);
        }
        return NONE;
    }

    private static void cellLowestBits() {
        says("(of bytes, shorts its lowest 8, 16 bits)");
        int[] v = {0, 64, 127, 128, 255, 256, 256 + 64, -256, -192, 32767, 32768, 65535, 65536, 65536 + 64, -65536, LOW,
            HIGH, LOW + 3};
        int[] bytes = {0, 64, NONE, NONE, NONE, 0, 64, 0, 64, NONE, 0, NONE, 0, 64, 0, 0, NONE, 3};
        int[] shorts = {0, 64, NONE, NONE, NONE, NONE, NONE, NONE, NONE, NONE, NONE, NONE, 0, 64, 0, 0, NONE, 3};
        for (int i = 0; i < v.length; i++) {
            due("byte " + v[i], item(0, v[i]), bytes[i]);
            due("short " + v[i], item(1, v[i]), shorts[i]);
            due("int " + v[i], item(2, v[i]), v[i] >= 0 && v[i] <= 64 ? v[i] : NONE);
        }
        says("bytes and shorts are below 0 from half on: nobody comes by them");
        int[] most = {128, 32768};
        for (int sort = 0; sort < 2; sort++) {
            MosaicOfSights x = new MosaicOfSights();
            row(x, 0, sort, most[sort] * 2 + 5, most[sort] * 2 + 9, most[sort] * 2 + 3);
            due("by the lowest bits", x.exarchate(0, sort, 0, 1), 1);
            due("kind", x.told(0, 8), RAG);
            due("number", x.told(0, 4), 9);
            due("colour", x.told(0, 5), 3);
            row(x, 0, sort, most[sort], 0, 0);
            due("nobody", x.exarchate(0, sort, 0, 1), 0);
        }
    }

    private static void copyBounds() {
        says("-12 (also with n below 0)");
        MosaicOfSights x = new MosaicOfSights();
        x.sheet(0, 1, 40);
        x.sheet(1, 1, 3);
        int[][] calls = {{0, 0, 3, 3}, {37, 0, 3, 3}, {38, 0, 3, OUTSIDE}, {0, 0, 4, OUTSIDE}, {0, 1, 2, 2},
            {0, 1, 3, OUTSIDE}, {0, 3, 0, 0}, {0, 4, 0, OUTSIDE}, {40, 0, 0, 0}, {41, 0, 0, OUTSIDE}, {40, 3, 0, 0},
            {40, 0, 1, OUTSIDE}, {39, 2, 1, 1}, {0, 3, 1, OUTSIDE}, {0, 0, -1, OUTSIDE}, {3, 3, -1, OUTSIDE},
            {-1, 0, 0, OUTSIDE}, {0, -1, 0, OUTSIDE}, {-1, 0, 1, OUTSIDE}, {0, -1, 1, OUTSIDE}, {0, 0, LOW, OUTSIDE},
            {0, 0, HIGH, OUTSIDE}, {HIGH, 0, HIGH, OUTSIDE}, {1, 1, HIGH, OUTSIDE}, {HIGH, 0, 1, OUTSIDE},
            {0, HIGH, 1, OUTSIDE}, {LOW, 0, 1, OUTSIDE}, {0, LOW, 1, OUTSIDE}, {HIGH, HIGH, 0, OUTSIDE},
            {LOW, LOW, LOW, OUTSIDE}, {LOW, 0, HIGH, OUTSIDE}};
        for (int[] c : calls) {
            due("copy " + c[0] + " to " + c[1] + ", " + c[2], x.copy(0, c[0], 1, c[1], c[2]), c[3]);
            due("copy back " + c[1] + " to " + c[0] + ", " + c[2], x.copy(1, c[1], 0, c[0], c[2]), c[3]);
        }
        x.sheet(1, 1, 0);
        due("of an empty one", x.copy(1, 0, 0, 0, 0), 0);
        due("of an empty one", x.copy(1, 0, 0, 0, 1), OUTSIDE);
        due("to an empty one", x.copy(0, 40, 1, 0, 0), 0);
        due("to an empty one", x.copy(0, 0, 1, 0, 1), OUTSIDE);
        says("(as they were): within one SHEET, up and down");
        int[][] moves = {{0, 1, 4, 1, 1, 2, 3, 4}, {1, 0, 4, 2, 3, 4, 5, 5}, {0, 0, 5, 1, 2, 3, 4, 5},
            {0, 4, 1, 1, 2, 3, 4, 1}, {3, 0, 2, 4, 5, 3, 4, 5}, {2, 2, 0, 1, 2, 3, 4, 5}};
        for (int[] m : moves) {
            MosaicOfSights y = new MosaicOfSights();
            row(y, 0, 0, 1, 2, 3, 4, 5);
            due("so many", y.copy(0, m[0], 0, m[1], m[2]), m[2]);
            for (int i = 0; i < 5; i++) {
                due("item " + i, numberAt(y, i), m[3 + i]);
            }
        }
    }

    /** An item (0 .. 9) of SHEET 0 (bytes), as the NUMBER of one who comes, in an object without PEOPLE. */
    private static int numberAt(MosaicOfSights y, int i) {
        y.image();
        y.sheet(1, 0, 3);
        y.copy(0, i, 1, 1, 1);
        y.exarchate(1, 0, 0, 1);
        int number = y.told(0, 4);
        y.back();
        return number;
    }

    private static void copyWhichRefusal() {
        says("BAD: no such SHEET; -11; -13: they are of unlike sorts; -12");
        within("sheet", 0, 3, BAD, (x, v) -> x.copy(v, 0, 0, 0, 1));
        within("other", 0, 3, BAD, (x, v) -> x.copy(0, 0, v, 0, 1));
        refused("sheet, ahead of a missing other", BAD, x -> x.copy(4, 0, 3, 0, 1));
        refused("other, ahead of a missing sheet", BAD, x -> x.copy(3, 0, 4, 0, 1));
        refused("other, ahead of a place outside", BAD, x -> x.copy(0, 9, -1, 9, -1));
        refused("missing", NOTHING, x -> x.copy(3, 0, 0, 0, 1));
        refused("other missing", NOTHING, x -> x.copy(0, 0, 3, 0, 1));
        refused("both missing", NOTHING, x -> x.copy(3, 0, 3, 0, 0));
        refused("missing, ahead of a place outside", NOTHING, x -> x.copy(3, -1, 0, 50, -1));
        refused("other missing, ahead of a place outside", NOTHING, x -> x.copy(0, -1, 3, 50, -1));
        for (int sheet = 0; sheet < 3; sheet++) {
            int s = sheet;
            refused("unlike sorts", OTHER_SORT, x -> x.copy(s, 0, (s + 1) % 3, 0, 1));
            refused("unlike sorts", OTHER_SORT, x -> x.copy((s + 1) % 3, 0, s, 0, 1));
            refused("unlike sorts, though none is copied", OTHER_SORT, x -> x.copy(s, 0, (s + 1) % 3, 0, 0));
            refused("unlike sorts, ahead of a place", OTHER_SORT, x -> x.copy(s, -1, (s + 1) % 3, 9, 1));
            refused("unlike sorts, ahead of n below 0", OTHER_SORT, x -> x.copy(s, 0, (s + 1) % 3, 0, -1));
            refused("a place outside", OUTSIDE, x -> x.copy(s, 1, s, 2, 3));
            refused("n below 0", OUTSIDE, x -> x.copy(s, 0, s, 0, -1));
        }
    }

    private static void exarchateBounds() {
        says("n of them (0 .. 5): how many came .. BAD: no such SHEET, sort, n");
        within("sheet", 0, 3, BAD, (x, v) -> x.exarchate(v, 0, 0, 1));
        within("sort", 0, 2, BAD, (x, v) -> x.exarchate(0, v, 0, 1));
        within("n", 0, 5, BAD, (x, v) -> x.exarchate(0, 0, 0, v));
        MosaicOfSights x = new MosaicOfSights();
        x.sheet(0, 1, 15);
        for (int i = 0; i < 15; i++) {
            x.cell(0, i, i % 3 == 0 ? 5 - i / 3 : i % 3 == 1 ? 9 - i / 3 : i % 4);
        }
        x.image();
        for (int n = 0; n <= 5; n++) {
            due("so many came", x.exarchate(0, 1, 0, n), n);
            due("so many are", x.count(0), n);
            due("the last one's kind", x.told(n - 1, 8), n == 0 ? NONE_SUCH : 6 - n);
            due("the last one's number", x.told(n - 1, 4), n == 0 ? NONE_SUCH : 10 - n);
            due("the last one's colour", x.told(n - 1, 5), n == 0 ? NONE_SUCH : (3 * n - 1) % 4);
            x.back();
        }
    }

    private static void exarchateWhichRefusal() {
        says("exarchate .. BAD: no such SHEET, sort, n; -13; -11; -12");
        for (int sort = 0; sort < 3; sort++) {
            int s = sort;
            refused("missing", NOTHING, x -> x.exarchate(3, s, 0, 1));
            refused("missing, though nobody is asked for", NOTHING, x -> x.exarchate(3, s, 0, 0));
            refused("missing, ahead of a place outside", NOTHING, x -> x.exarchate(3, s, -1, 5));
            refused("another sort", OTHER_SORT, x -> x.exarchate((s + 1) % 3, s, 0, 1));
            refused("another sort", OTHER_SORT, x -> x.exarchate((s + 2) % 3, s, 0, 1));
            refused("another sort, though nobody is asked for", OTHER_SORT, x -> x.exarchate((s + 1) % 3, s, 0, 0));
            refused("another sort, ahead of a place", OTHER_SORT, x -> x.exarchate((s + 1) % 3, s, 39, 5));
        }
        refused("n, ahead of missing", BAD, x -> x.exarchate(3, 0, 0, 6));
        refused("n, ahead of another sort", BAD, x -> x.exarchate(0, 1, 0, -1));
        refused("n, ahead of a place outside", BAD, x -> x.exarchate(0, 0, 9, 6));
        refused("sort, ahead of missing", BAD, x -> x.exarchate(3, 3, 0, 1));
        refused("sort -1, of a missing one", BAD, x -> x.exarchate(3, -1, 0, 1));
        refused("sheet, ahead of all", BAD, x -> x.exarchate(4, 1, -1, 1));
    }

    private static void exarchateOutside() {
        says("-12: what stood ahead came.");
        for (int from : new int[] {-1, -3, 1, 2, 3, 4, LOW, HIGH, HIGH - 2, HIGH - 15}) {
            refused("from " + from + ", nobody stood ahead", OUTSIDE, x -> x.exarchate(0, 0, from, 1));
            refused("from " + from + ", 5", OUTSIDE, x -> x.exarchate(0, 0, from, 5));
        }
        MosaicOfSights x = new MosaicOfSights();
        row(x, 0, 2, 5, 9, 3, 4, 8, 2, 3, 1);
        due("the third is cut", x.exarchate(0, 2, 0, 3), OUTSIDE);
        due("two stood ahead", x.count(0), 2);
        due("the second", x.told(1, 8), MONK);
        due("none stands there", x.exarchate(0, 2, 6, 1), OUTSIDE);
        due("no other came", x.count(0), 2);
        due("the last three items", x.exarchate(0, 2, 5, 1), 1);
        due("kind 2, number 3, colour 1", x.told(2, 4), 3);
        row(x, 1, 2, 6, 0, 0, 0, 0, 0, 1);
        due("one is left out, one came, one is cut", x.exarchate(1, 2, 0, 5), OUTSIDE);
        due("one came", x.count(0), 4);
        MosaicOfSights y = crowded();
        row(y, 0, 0, 1, 1, 1);
        due("a place outside, though there is no room", y.exarchate(0, 0, 0, 2), OUTSIDE);
        MosaicOfSights z = new MosaicOfSights();
        z.sheet(0, 0, 0);
        due("an empty one, nobody asked for", z.exarchate(0, 0, 0, 0), 0);
        due("an empty one", z.exarchate(0, 0, 0, 1), OUTSIDE);
        z.sheet(0, 0, 2);
        due("two items", z.exarchate(0, 0, 0, 1), OUTSIDE);
        z.sheet(0, 0, 40);
        due("37 .. 39", z.exarchate(0, 0, 37, 1), 1);
        due("38 .. 40", z.exarchate(0, 0, 38, 1), OUTSIDE);
    }

    private static void exarchateLeavesOut() {
        says("(others are left out) .. as of person()");
        int[][] bad = {{-1, 0, 0}, {6, 0, 0}, {0, -1, 0}, {0, 10, 0}, {0, 0, -1}, {0, 0, 4}};
        for (int[] b : bad) {
            MosaicOfSights x = new MosaicOfSights();
            row(x, 0, 0, 5, 9, 3, b[0], b[1], b[2], 0, 0, 0);
            due("two of three", x.exarchate(0, 0, 0, 3), 2);
            due("two", x.count(0), 2);
            due("the third is the second", x.told(1, 8), LOOKER);
        }
        MosaicOfSights x = some();
        row(x, 0, 0, 1, 1, 1, 2, 2, 2);
        due("one has room", x.exarchate(0, 0, 0, 2), 1);
        due("five", x.count(0), 5);
        due("the first", x.told(4, 8), WIFE);
        due("none has room", x.exarchate(0, 0, 0, 2), 0);
        due("five", x.count(0), 5);
    }

    private static void takenRefuses() {
        says("KIND k (0 .. 5) .. the NUMBER. BAD: k; -11: none such; -13.");
        within("k", 0, 5, BAD, (x, v) -> x.taken(0, v));
        within("one", 0, 3, NOTHING, (x, v) -> x.taken(v, 0));
        refused("k, ahead of none such", BAD, x -> x.taken(4, 6));
        refused("k, ahead of none such", BAD, x -> x.taken(-1, -1));
        refused("another kind", OTHER_SORT, x -> x.taken(3, 1));
        refused("none such, ahead of another kind", NOTHING, x -> x.taken(4, 1));
        due("nobody", new MosaicOfSights().taken(0, 0), NOTHING);
        int[] above = {NONE, LOOKER, LOOKER, WIFE, BOY, LOOKER};
        for (int kind = 0; kind < 6; kind++) {
            for (int k = 0; k < 6; k++) {
                MosaicOfSights x = new MosaicOfSights();
                x.person(kind, 9, 0);
                boolean under = kind == k || above[kind] == k || above[kind] > 0 && above[above[kind]] == k;
                due("kind " + kind + " for " + k, x.taken(0, k), under ? 9 : OTHER_SORT);
            }
        }
    }
}
