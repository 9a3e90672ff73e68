/** Each promise of the document by hand-made answers: ordinary inputs, the edges that it names, wrong inputs. */
public final class PromisesTest {
    private static final int NONE = -1, BAD = -2, STATE = -3, FULL = -4;
    private static final int NOTHING = -11, OUTSIDE = -12, OTHER_SORT = -13, BELOW_ZERO = -14, NONE_SUCH = -1000;
    private static final long NO = -4611686018427387904L;
    private static final int LOOKER = 0, WIFE = 1, BOY = 2, DEACON = 3, MONK = 4, RAG = 5;
    private static final int LOW = Integer.MIN_VALUE, HIGH = Integer.MAX_VALUE;
    private static final String REST = ";sees day;turns day+number;";

    private static int wrong = 0;
    private static int asked = 0;
    private static String promise = "";

    private static void due(String what, long got, long want) {
        asked++;
        if (got != want) {
            wrong++;
            System.out.println(promise + ": " + what + " answered " + got + ", due is " + want);
        }
    }

    private static void fill(MosaicOfSights x, String text) {
        for (int i = 0; i < text.length(); i++) {
            x.feed(text.charAt(i));
        }
    }

    private static int write(MosaicOfSights x, String text) {
        fill(x, text);
        return x.text();
    }

    /** A new object whose RULE is this text. */
    private static MosaicOfSights ruled(String text) {
        MosaicOfSights x = new MosaicOfSights();
        due("text of " + text, write(x, text), 1);
        due("force(1)", x.force(1), 0);
        return x;
    }

    private static MosaicOfSights withOne(String text, int kind, int number, int colour) {
        MosaicOfSights x = ruled(text);
        due("person", x.person(kind, number, colour), 0);
        return x;
    }

    private static void fillCells(MosaicOfSights x, int from, int to) {
        for (int c = from; c < to; c++) {
            x.set(2, c, 1);
        }
    }

    private static void row(MosaicOfSights x, int sheet, int sort, int... items) {
        due("sheet", x.sheet(sheet, sort, items.length), 1);
        for (int i = 0; i < items.length; i++) {
            due("cell", x.cell(sheet, i, items[i]), 1);
        }
    }

    /** All that can be seen of the state without changing it, so that a refusal can be shown to change nothing. */
    private static String seen(MosaicOfSights x) {
        StringBuilder s = new StringBuilder();
        for (int what = 0; what <= 4; what++) {
            s.append(x.picture(what)).append(' ');
        }
        for (int what = 0; what <= 5; what++) {
            s.append(x.count(what)).append(' ');
        }
        for (int what = 3; what <= 11; what++) {
            for (int of = 0; of < 5; of++) {
                s.append(x.told(of, what)).append(' ');
            }
        }
        return s.toString();
    }

    private static void unchanged(MosaicOfSights x, String before) {
        due("nothing is changed", seen(x).equals(before) ? 1 : 0, 1);
    }

    public static void main(String[] args) {
        newObject();
        set();
        setRefuses();
        person();
        toldNeeds();
        toldGives();
        toldTurns();
        toldRefuses();
        picture();
        feed();
        textFaults();
        textDepth();
        textValues();
        textFull();
        force();
        day();
        dayOrder();
        dayBounds();
        run();
        later();
        ends();
        atWhat();
        want();
        idle();
        gap();
        share();
        tells();
        tellsRefuses();
        film();
        drawn();
        chance();
        imageAndBack();
        count();
        sheet();
        cell();
        copy();
        exarchate();
        taken();
        System.out.println(wrong == 0 ? asked + " answers are as due" : wrong + " answers are not as due");
        if (wrong != 0) {
            System.exit(1);
        }
    }

    private static void newObject() {
        promise = "1 new object";
        MosaicOfSights x = new MosaicOfSights();
        due("NONE", MosaicOfSights.NONE, NONE);
        due("BAD", MosaicOfSights.BAD, BAD);
        due("STATE", MosaicOfSights.STATE, STATE);
        due("FULL", MosaicOfSights.FULL, FULL);
        due("NO", MosaicOfSights.NO, NO);
        for (int what = 0; what <= 5; what++) {
            due("count " + what, x.count(what), what == 3 ? 1 : 0);
        }
        for (int c = 0; c < 64; c++) {
            due("wants " + c, x.told(c, 1), c % 4);
            due("filled " + c, x.told(c, 2), 0);
        }
        for (int c = 0; c < 4; c++) {
            due("box " + c, x.told(c, 3), 0);
            due("sheet missing " + c, x.cell(c, 0, 0), NOTHING);
        }
        due("nobody", x.told(0, 4), NONE_SUCH);
        due("no image", x.back(), STATE);
        x.person(WIFE, 3, 2);
        x.set(0, 0, 7);
        due("rule: needs 2", x.told(0, 9), 1);
        due("rule: sees day", x.told(0, 10), 3);
        x.person(LOOKER, 3, 2);
        due("rule: turns day + number", x.told(1, 11), 2);
        MosaicOfSights y = new MosaicOfSights();
        due("another object is its own", y.count(0), 0);
    }

    private static void set() {
        promise = "2 set";
        MosaicOfSights x = new MosaicOfSights();
        x.person(LOOKER, 4, 3);
        x.person(BOY, 6, 1);
        int[] least = {0, 0, 0, 0, 0, 0, 0, 0};
        int[] most = {999, 3, 1, 99, 9, 3, 99, 99};
        int[] of = {77, 63, 63, 3, 1, 1, 1, 1};
        int[] was = {0, 3, 0, 0, 6, 1, 0, 0};
        for (int what = 0; what < 8; what++) {
            due("set most " + what, x.set(what, of[what], most[what]), was[what]);
            due("told most " + what, x.told(of[what], what), most[what]);
            due("set above " + what, x.set(what, of[what], most[what] + 1), BAD);
            due("set below " + what, x.set(what, of[what], -1), BAD);
            due("set HIGH " + what, x.set(what, of[what], HIGH), BAD);
            due("set LOW " + what, x.set(what, of[what], LOW), BAD);
            due("stays " + what, x.told(of[what], what), most[what]);
            due("set least " + what, x.set(what, of[what], least[what]), most[what]);
            due("told least " + what, x.told(of[what], what), least[what]);
        }
        due("day of anything", x.set(0, LOW, 5), 0);
        due("the other one stays", x.told(0, 4), 4);
        due("the other one looks", x.told(0, 5), 3);
        due("cell 62 stays", x.told(62, 1), 2);
        due("picture 0 has 63", x.picture(0), 0x9111111111111111L);
        due("picture 3 hasn't", x.picture(3), 0x0888888888888888L);
        for (int c = 0; c < 64; c++) {
            due("fill", x.set(2, c, 1), 0);
            due("filled", x.count(1), c + 1);
        }
        due("fill again", x.set(2, 9, 1), 1);
        due("empty", x.set(2, 9, 0), 1);
        due("empty again", x.set(2, 9, 0), 0);
        due("filled but one", x.picture(4), ~(1L << 9));
    }

    private static void setRefuses() {
        promise = "2 set refuses";
        MosaicOfSights x = new MosaicOfSights();
        x.person(RAG, 4, 3);
        String before = seen(x);
        int[] size = {0, 64, 64, 4, 1, 1, 1, 1};
        for (int what = 1; what < 8; what++) {
            due("of -1", x.set(what, -1, 0), BAD);
            due("of size", x.set(what, size[what], 0), BAD);
            due("of LOW", x.set(what, LOW, 0), BAD);
            due("of HIGH", x.set(what, HIGH, 0), BAD);
        }
        due("what -1", x.set(-1, 0, 0), BAD);
        due("what 8", x.set(8, 0, 0), BAD);
        due("what 9", x.set(9, 0, 0), BAD);
        due("what LOW", x.set(LOW, 0, 0), BAD);
        due("what HIGH", x.set(HIGH, 0, 0), BAD);
        unchanged(x, before);
    }

    private static void person() {
        promise = "3 person";
        MosaicOfSights x = new MosaicOfSights();
        int[][] bad = {{-1, 0, 0}, {6, 0, 0}, {0, -1, 0}, {0, 10, 0}, {0, 0, -1}, {0, 0, 4}, {LOW, 0, 0}, {0, HIGH, 0}};
        for (int[] b : bad) {
            due("bad", x.person(b[0], b[1], b[2]), BAD);
        }
        due("nobody came", x.count(0), 0);
        for (int i = 0; i < 5; i++) {
            due("comes", x.person(i + 1, 9 - i, i % 4), i);
            due("kind", x.told(i, 8), i + 1);
            due("number", x.told(i, 4), 9 - i);
            due("looks at", x.told(i, 5), i % 4);
            due("looked", x.told(i, 6), 0);
            due("gave", x.told(i, 7), 0);
        }
        due("full", x.person(LOOKER, 0, 0), FULL);
        due("bad ahead of full", x.person(6, 0, 0), BAD);
        due("five", x.count(0), 5);
    }

    private static void toldNeeds() {
        promise = "4 told NEEDS";
        String[] texts = {"needs 0", "needs 7", "needs 99", "needs 100", "needs 9999", "needs -9"};
        // By KINDS LOOKER, WIFE, BOY (number 9), DEACON; the MONK is as the BOY while THE BOX isn't empty.
        int[][] days = {{1, 1, 9, 3}, {7, 3, 16, 6}, {99, 49, 99, 52}, {99, 49, 99, 52}, {99, 49, 99, 52},
            {1, 1, 9, 3}};
        for (int t = 0; t < texts.length; t++) {
            MosaicOfSights x = ruled(texts[t] + REST);
            for (int kind = 0; kind < 4; kind++) {
                due("comes", x.person(kind, 9, 0), kind);
                due(texts[t] + " of kind " + kind, x.told(kind, 9), days[t][kind]);
            }
            x.person(MONK, 9, 0);
            due("monk, empty box", x.told(4, 9), 2);
            x.set(3, 3, 1);
            due("monk, " + texts[t], x.told(4, 9), days[t][2]);
            MosaicOfSights y = ruled(texts[t] + REST);
            y.person(RAG, 9, 0);
            due("rag", y.told(0, 9), 1);
            y.person(BOY, 0, 0);
            due("boy 0", y.told(1, 9), days[t][0]);
        }
    }

    private static void toldGives() {
        promise = "4 told GIVES";
        String[] sees = {"2", "99", "1000", "-1", "-99", "-1000", "day"};
        int[] colours = {2, 3, 3, 3, 1, 1, 2};
        for (int t = 0; t < sees.length; t++) {
            MosaicOfSights x = ruled("needs 2;sees " + sees[t] + ";turns 0;");
            x.person(LOOKER, 1, 3);
            x.person(WIFE, 1, 3);
            x.person(BOY, 1, 3);
            x.person(DEACON, 1, 3);
            x.person(MONK, 1, 0);
            x.set(0, 0, 6);
            due("looker", x.told(0, 10), 3);
            due("wife " + sees[t], x.told(1, 10), colours[t]);
            due("boy", x.told(2, 10), 0);
            due("deacon, even day", x.told(3, 10), 3);
            x.set(0, 0, 7);
            due("deacon, odd day", x.told(3, 10), sees[t].equals("day") ? 3 : colours[t]);
            x.set(0, 0, 8);
            due("deacon, day 8", x.told(3, 10), 3);
            x.set(0, 0, 9);
            due("deacon, day 9", x.told(3, 10), sees[t].equals("day") ? 1 : colours[t]);
            due("monk, first cell wants 0", x.told(4, 10), 0);
            fillCells(x, 0, 2);
            due("monk, first empty wants 2", x.told(4, 10), 2);
            x.set(1, 2, 3);
            due("monk, first empty wants 3", x.told(4, 10), 3);
            fillCells(x, 0, 64);
            due("monk, whole: as a boy", x.told(4, 10), 1);
            x.set(2, 63, 0);
            due("monk, last cell", x.told(4, 10), 3);
        }
        MosaicOfSights y = new MosaicOfSights();
        y.person(RAG, 9, 0);
        due("rag 9", y.told(0, 10), 1);
        y.set(4, 0, 7);
        due("rag 7", y.told(0, 10), 3);
        y.person(BOY, 9, 1);
        due("boy at 1", y.told(1, 10), 2);
    }

    private static void toldTurns() {
        promise = "4 told TURNS";
        String[] turns = {"2", "1000", "-1", "-1000"};
        int[] looker = {2, 3, 3, 1};
        int[] boy = {0, 1, 1, 3};
        int[] rag = {3, 0, 0, 2};
        for (int t = 0; t < turns.length; t++) {
            MosaicOfSights x = ruled("needs 2;sees 0;turns " + turns[t] + ";");
            x.person(LOOKER, 7, 2);
            x.person(WIFE, 7, 2);
            x.person(BOY, 7, 2);
            x.person(DEACON, 7, 2);
            x.person(RAG, 7, 2);
            due("looker " + turns[t], x.told(0, 11), looker[t]);
            due("wife", x.told(1, 11), 2);
            due("boy " + turns[t], x.told(2, 11), boy[t]);
            due("deacon", x.told(3, 11), 1);
            due("rag " + turns[t], x.told(4, 11), rag[t]);
            MosaicOfSights y = withOne("needs 2;sees 0;turns " + turns[t] + ";", MONK, 7, 2);
            due("monk " + turns[t], y.told(0, 11), boy[t]);
            y.set(5, 0, 1);
            due("monk at 1 " + turns[t], y.told(0, 11), (boy[t] + 3) % 4);
            y.person(BOY, 7, 1);
            due("boy at 1 " + turns[t], y.told(1, 11), (boy[t] + 3) % 4);
        }
    }

    private static void toldRefuses() {
        promise = "4 told refuses";
        MosaicOfSights x = new MosaicOfSights();
        x.person(RAG, 4, 3);
        int[] size = {0, 64, 64, 4, 1, 1, 1, 1, 1, 1, 1, 1};
        for (int what = 1; what <= 11; what++) {
            due("of -1", x.told(-1, what), NONE_SUCH);
            due("of size", x.told(size[what], what), NONE_SUCH);
            due("of LOW", x.told(LOW, what), NONE_SUCH);
            due("of HIGH", x.told(HIGH, what), NONE_SUCH);
            due("of 0 is there", x.told(0, what) == NONE_SUCH ? 1 : 0, 0);
        }
        due("day of anything", x.told(LOW, 0), 0);
        due("what -1", x.told(0, -1), NONE_SUCH);
        due("what 12", x.told(0, 12), NONE_SUCH);
    }

    private static void picture() {
        promise = "5 picture";
        MosaicOfSights x = new MosaicOfSights();
        for (int c = 0; c < 4; c++) {
            due("at first", x.picture(c), 0x1111111111111111L << c);
        }
        x.set(1, 0, 3);
        x.set(2, 63, 1);
        due("0", x.picture(0), 0x1111111111111110L);
        due("3", x.picture(3), 0x8888888888888889L);
        due("filled", x.picture(4), 1L << 63);
        due("-1", x.picture(-1), NO);
        due("5", x.picture(5), NO);
        due("HIGH", x.picture(HIGH), NO);
    }

    private static void feed() {
        promise = "6 feed";
        MosaicOfSights x = new MosaicOfSights();
        due("-1", x.feed(-1), BAD);
        due("256", x.feed(256), BAD);
        due("LOW", x.feed(LOW), BAD);
        due("none came", x.count(4), 0);
        for (int i = 0; i < 160; i++) {
            due("feed", x.feed(i % 2 == 0 ? 0 : 255), i + 1);
        }
        due("full", x.feed(32), FULL);
        due("bad ahead of full", x.feed(256), BAD);
        due("tape", x.count(4), 160);
    }

    private static void fault(String text, int place) {
        MosaicOfSights x = new MosaicOfSights();
        fill(x, text);
        due("text '" + text + "'", x.text(), place == NONE ? 1 : -100 - place);
        due("tape is empty", x.count(4), 0);
        due("texts", x.count(3), place == NONE ? 2 : 1);
    }

    private static void textFaults() {
        promise = "7 text faults";
        fault("", 0);
        fault("   ", 3);
        fault("needs 1;sees 2;turns 3;", NONE);
        fault(" \nneeds 1;\nsees 2 ; turns 3 ;\n ", NONE);
        fault("needs1;sees2;turns3;", NONE);
        fault("needs 1;sees 2;turns 3", 22);
        fault("needs 1;sees 2;turns 3 ", 23);
        fault("needs 1;sees 2;", 15);
        fault("sees 1;sees 2;turns 3;", 0);
        fault("needs 1;turns 2;sees 3;", 8);
        fault("needs 1;sees 2;turns 3;;", 23);
        fault("needs 1;sees 2;turns 3; day", 24);
        fault("needs 1;sees 2;turns 3;?", 23);
        fault("needs\t1;sees 2;turns 3;", 5);
        fault("needs 1\r;sees 2;turns 3;", 7);
        fault("needs " + (char) 228 + ";sees 2;turns 3;", 6);
        fault("needs " + (char) 0 + ";sees 2;turns 3;", 6);
        fault("needs 9999;sees 0009;turns 0;", NONE);
        fault("needs 12345;sees 2;turns 3;", 6);
        fault("needs 00001;sees 2;turns 3;", 6);
        fault("needs 4294967297;sees 2;turns 3;", 6);
        fault("needs 1 2;sees 2;turns 3;", 8);
        fault("needs 1 12345;sees 2;turns 3;", 8);
        fault("needs 2day;sees 2;turns 3;", 7);
        fault("needs day2;sees 2;turns 3;", 9);
        fault("needs dayday;sees 2;turns 3;", 6);
        fault("needs lookedx;sees 2;turns 3;", 6);
        fault("needs looke;sees 2;turns 3;", 6);
        fault("needs Day;sees 2;turns 3;", 6);
        fault("needs dAy;sees 2;turns 3;", 6);
        fault("needs dayA;sees 2;turns 3;", 9);
        fault("needs dayz;sees 2;turns 3;", 6);
        fault("needs zday;sees 2;turns 3;", 6);
        fault("needs day`;sees 2;turns 3;", 9);
        fault("needs day{;sees 2;turns 3;", 9);
        fault("needs 1/;sees 2;turns 3;", 7);
        fault("needs 1:;sees 2;turns 3;", 7);
        fault("needs bay;sees 2;turns 3;", 6);
        fault("xeeds 1;sees 2;turns 3;", 0);
        fault("a".repeat(160), 0);
        fault("1".repeat(160), 0);
        fault(" ".repeat(160), 160);
        fault("needs 1;sees 2;turns 3;" + " ".repeat(136) + "a", 159);
        fault("needs 1;sees 2;" + " ".repeat(138) + "turns 3", 160);
        fault("needs 1;sees 2;" + " ".repeat(137) + "turns 3;", NONE);
        fault("needs x;sees 2;turns 3;", 6);
        fault("needs needs;sees 2;turns 3;", 6);
        fault("needs sees 2;", 6);
        fault("needs ;sees 2;turns 3;", 6);
        fault("needs ();sees 2;turns 3;", 7);
        fault("needs (1;sees 2;turns 3;", 8);
        fault("needs 1);sees 2;turns 3;", 7);
        fault("needs (1", 8);
        fault("needs 1+;sees 2;turns 3;", 8);
        fault("needs 1+", 8);
        fault("needs +1;sees 2;turns 3;", 6);
        fault("needs *1;sees 2;turns 3;", 6);
        fault("needs 1**1;sees 2;turns 3;", 8);
        fault("needs 1<2<3;sees 2;turns 3;", 9);
        fault("needs 1=2=3;sees 2;turns 3;", 9);
        fault("needs 1<=3;sees 2;turns 3;", 8);
        fault("needs (1<2)<3;sees 2;turns 3;", NONE);
        fault("needs 1<not 2;sees 2;turns 3;", 8);
        fault("needs 1+not 2;sees 2;turns 3;", 8);
        fault("needs -not 2;sees 2;turns 3;", 7);
        fault("needs 1 or;sees 2;turns 3;", 10);
        fault("needs or 1;sees 2;turns 3;", 6);
        fault("needs 1 and or 1;sees 2;turns 3;", 12);
        fault("needs 1 or not 2 and 3<4;sees 2;turns 3;", NONE);
        fault("needs 1or2and3;sees not1;turns(3);", NONE);
        fault("needs 1;sees 2;turns looked+colour*number-day+filled=box;", NONE);
        fault("needs 1;sees 2;turns 3;" + " ".repeat(137), NONE);
    }

    private static void textDepth() {
        promise = "7 text depth";
        String end = ";sees 1;turns 1;";
        fault("needs (((((1)))))" + end, NONE);
        fault("needs ((((((1))))))" + end, 11);
        fault("needs -----1" + end, NONE);
        fault("needs ------1" + end, 11);
        fault("needs not not not not not 1" + end, NONE);
        fault("needs not not not not not not 1" + end, 26);
        fault("needs not-(not(1))" + end, NONE);
        fault("needs not-(not(-1))" + end, 15);
        fault("needs ((((1))))+((((1))))" + end, NONE);
        fault("needs -(((((1)))))" + end, 11);
        fault("needs -1*(((((1)))))" + end, NONE);
        fault("needs -1-(((((1)))))" + end, NONE);
        fault("needs 1------1" + end, NONE);
        fault("needs 1-------1" + end, 13);
        fault("needs not 1<(((((1)))))" + end, 16);
        fault("needs not 1<((((1))))" + end, NONE);
        fault("needs not 1 and (((((1)))))" + end, NONE);
        fault("needs not 1 or not 1 or not 1 or not 1 or not 1 or not 1 or not 1" + end, NONE);
        fault("needs -1-1--1--1--1--1--1--1" + end, NONE);
        fault("needs (((((", 11);
        fault("needs ((((((", 11);
        fault("needs (((((x", 11);
        fault("needs (((((not 1)))))" + end, 11);
        fault("needs ((((not 1))))" + end, NONE);
        fault("needs (((((-1)))))" + end, 11);
        fault("needs (((((1-1)))))" + end, NONE);
    }

    private static void value(String e, int v) {
        MosaicOfSights x = withOne("needs " + e + ";sees 0;turns 0;", LOOKER, 3, 2);
        x.set(0, 0, 17);
        x.set(6, 0, 12);
        x.set(3, 0, 4);
        x.set(3, 3, 30);
        fillCells(x, 10, 31);
        due(e, x.told(0, 9), v);
    }

    private static void textValues() {
        promise = "7 text values";
        value("2+3*4", 14);
        value("2*3+4", 10);
        value("(2+3)*4", 20);
        value("20-2-3", 15);
        value("20-(2-3)", 21);
        value("-2*-3", 6);
        value("9--2", 11);
        value("looked", 12);
        value("colour", 2);
        value("number", 3);
        value("day", 17);
        value("filled", 21);
        value("box", 34);
        value("0070", 70);
        value("5+(not 0)", 6);
        value("5+(not 3)", 5);
        value("5+(not not 3)", 6);
        value("5+(1<2)", 6);
        value("5+(2<2)", 5);
        value("5+(2=2)", 6);
        value("5+(2=3)", 5);
        value("5+(-1<0)", 6);
        value("5+(1+1<1*3)", 6);
        value("5+(1 or 0 and 0)", 6);
        value("5+((1 or 0) and 0)", 5);
        value("5+(0 and 0 or 1)", 6);
        value("5+(not 1 or 1)", 6);
        value("5+(not (1 or 1))", 5);
        value("5+(not 1<2)", 5);
        value("5+(not 2=0)", 6);
        value("5+(7 and 8)", 6);
        value("5+(-1 and -1)", 6);
        value("5+(-1 or 0)", 6);
        value("5+(7 or 8)", 6);
        value("5+(-7 and 0)", 5);
        value("5+(0 or 0)", 5);
        value("5+(1=1 and 2=2)", 6);
        value("5+(9999*9999*9999<0)", 9999 * 9999 * 9999 < 0 ? 6 : 5);
        value("9999*9999*43", 9999 * 9999 * 43 < 0 ? 1 : 99);
        value("9999*9999*22", 9999 * 9999 * 22 < 0 ? 1 : 99);
        value("5+(4096*4096*256=0)", 6);
        value("5+(4096*4096*128=-4096*4096*128)", 6);
        value("1 and 0", 1);
        value("9-9", 1);
    }

    private static void textFull() {
        promise = "7 text full";
        MosaicOfSights x = new MosaicOfSights();
        due("fault", write(x, "needs"), -105);
        for (int i = 1; i < 6; i++) {
            due("text", write(x, "needs " + (10 * i) + ";sees 0;turns 0;"), i);
            due("fault between", i < 5 ? write(x, "needs 77;sees 0;turns 0") : -123, -123);
        }
        due("full of nothing", x.text(), FULL);
        fill(x, "needs");
        due("full", x.text(), FULL);
        due("tape stays", x.count(4), 5);
        due("tape goes on", x.feed(' '), 6);
        due("texts", x.count(3), 6);
        x.person(LOOKER, 0, 0);
        for (int i = 1; i < 6; i++) {
            x.force(i);
            due("text " + i, x.told(0, 9), 10 * i);
        }
    }

    private static void force() {
        promise = "8 force";
        MosaicOfSights x = new MosaicOfSights();
        x.person(LOOKER, 0, 0);
        due("none such yet", x.force(1), BAD);
        due("-1", x.force(-1), BAD);
        due("same", x.force(0), 0);
        due("text", write(x, "needs 5;sees 0;turns 0;"), 1);
        due("a text is no rule yet", x.told(0, 9), 2);
        due("force", x.force(1), 0);
        due("rule", x.count(5), 1);
        due("needs", x.told(0, 9), 5);
        due("2", x.force(2), BAD);
        due("HIGH", x.force(HIGH), BAD);
        due("back", x.force(0), 1);
        due("needs", x.told(0, 9), 2);
    }

    private static void day() {
        promise = "9 day";
        MosaicOfSights x = new MosaicOfSights();
        x.person(LOOKER, 5, 2);
        due("looks", x.day(), 0);
        due("looked", x.told(0, 6), 1);
        due("gives", x.day(), 1);
        due("cell 2", x.picture(4), 4);
        due("looked", x.told(0, 6), 0);
        due("gave", x.told(0, 7), 1);
        due("turned to 1 + 5", x.told(0, 5), 2);
        due("day", x.count(2), 2);
        x.set(0, 0, 998);
        due("last", x.day(), 1);
        due("999", x.count(2), 999);
        String before = seen(x);
        due("no more", x.day(), STATE);
        unchanged(x, before);
        due("in thought more", x.run(0, 1, 0), 2);
        MosaicOfSights y = new MosaicOfSights();
        due("nobody", y.day(), 0);
        due("a day is gone", y.count(2), 1);
    }

    private static void dayOrder() {
        promise = "9 day order";
        MosaicOfSights x = ruled("needs 1+filled;sees 0;turns 0;");
        x.person(LOOKER, 0, 0);
        x.person(LOOKER, 0, 1);
        due("the second sees what the first filled", x.day(), 1);
        due("first cell", x.picture(4), 1);
        MosaicOfSights y = withOne("needs 1;sees filled+2;turns filled+looked+box;", WIFE, 0, 0);
        y.person(LOOKER, 0, 1);
        due("both", y.day(), 2);
        due("wife saw 0 filled, looker colour 1", y.picture(4), 6);
        due("looker turned by 1 filled and 1 looked", y.told(1, 5), 2);
        MosaicOfSights z = withOne("needs 1;sees 0;turns box+filled*2;", LOOKER, 0, 0);
        for (int c = 0; c < 64; c += 4) {
            z.set(2, c, 1);
        }
        z.set(3, 2, 3);
        due("no cell wants it", z.day(), 16);
        due("into the box", z.told(0, 3), 1);
        due("turned by the box as it was", z.told(0, 5), 3);
        MosaicOfSights w = withOne("needs looked;sees 0;turns 0;", LOOKER, 0, 3);
        due("looked is 1 more ahead of needs", w.day(), 1);
        MosaicOfSights v = withOne("needs 2-day;sees 0;turns 0;", LOOKER, 0, 3);
        due("day is 1 more behind all", v.day(), 0);
        due("now", v.day(), 1);
        MosaicOfSights u = new MosaicOfSights();
        u.person(RAG, 0, 0);
        u.person(MONK, 9, 0);
        fillCells(u, 0, 1);
        for (int c = 4; c < 64; c += 4) {
            u.set(2, c, 1);
        }
        u.set(6, 1, 1);
        due("the monk needs more, as the rag filled the box", u.day(), 16);
        due("monk looked", u.told(1, 6), 2);
    }

    private static void dayBounds() {
        promise = "9 day bounds";
        MosaicOfSights x = new MosaicOfSights();
        x.person(RAG, 0, 0);
        for (int c = 0; c < 64; c += 4) {
            x.set(2, c, 1);
        }
        x.set(7, 0, 98);
        x.set(3, 0, 98);
        x.day();
        due("gave 99", x.told(0, 7), 99);
        due("box 99", x.told(0, 3), 99);
        x.day();
        due("gave stays", x.told(0, 7), 99);
        due("box stays: lost", x.told(0, 3), 99);
        due("other colours stay", x.told(1, 3), 0);
        MosaicOfSights y = withOne("needs 99;sees 0;turns 0;", LOOKER, 0, 0);
        y.set(6, 0, 97);
        due("98 are too few", y.day(), 0);
        due("99 do", y.day(), 1);
        MosaicOfSights z = withOne("needs 98+day;sees 0;turns 0;", BOY, 9, 0);
        z.set(6, 0, 99);
        due("looked stays 99, which does", z.day(), 1);
        due("colour 1", z.picture(4), 2);
    }

    private static void run() {
        promise = "10 run";
        MosaicOfSights x = new MosaicOfSights();
        due("nobody", x.run(0, 0, 0), BAD);
        x.person(RAG, 1, 2);
        x.person(LOOKER, 0, 3);
        String before = seen(x);
        int[][] dues = {{0, 0, 2, 0, 0}, {1, 0, 0, 0, 1}, {3, 0, 1, 0, 2}, {4, 0, 2, 0, 3}};
        for (int n = 0; n < dues.length; n++) {
            for (int what = 0; what < 5; what++) {
                due("run " + n + " " + what, x.run(0, n, what), dues[n][what]);
            }
        }
        due("other one looked", x.run(1, 3, 3), 1);
        due("other one gave", x.run(1, 3, 4), 1);
        due("16 of colour 1, the others by a looker", x.run(0, 40, 4), 40);
        unchanged(x, before);
        due("one -1", x.run(-1, 0, 0), BAD);
        due("one 2", x.run(2, 0, 0), BAD);
        due("n -1", x.run(0, -1, 0), BAD);
        due("n 41", x.run(0, 41, 0), BAD);
        due("what -1", x.run(0, 0, -1), BAD);
        due("what 5", x.run(0, 0, 5), BAD);
        MosaicOfSights y = new MosaicOfSights();
        y.person(RAG, 1, 0);
        due("box behind 40", y.run(0, 40, 1), 24);
        due("filled behind 40", y.run(0, 40, 0), 16);
        MosaicOfSights z = withOne("needs 1;sees 0;turns 1+(day<1000);", LOOKER, 0, 0);
        z.set(0, 0, 999);
        due("day 999", z.run(0, 1, 2), 2);
        due("day 1000 in thought", z.run(0, 2, 2), 1);
    }

    private static void later() {
        promise = "11 later";
        MosaicOfSights x = new MosaicOfSights();
        due("nobody", x.later(40), 0);
        x.person(RAG, 1, 0);
        due("0", x.later(0), 0);
        due("3", x.later(3), 0x222L);
        due("40", x.later(40), 0x2222222222222222L);
        due("41", x.later(41), NO);
        due("-1", x.later(-1), NO);
        due("in thought", x.count(1), 0);
        due("in thought", x.count(2), 0);
    }

    private static void ends() {
        promise = "12 ends";
        MosaicOfSights x = new MosaicOfSights();
        due("nobody", x.ends(), NONE);
        fillCells(x, 0, 64);
        due("whole", x.ends(), 0);
        for (int c = 0; c < 60; c++) {
            x.set(2, c, 0);
            x.set(1, c, 1);
        }
        x.person(RAG, 1, 0);
        due("60", x.ends(), 60);
        x.set(2, 63, 0);
        due("never", x.ends(), NONE);
        x.set(1, 63, 1);
        due("61 are too many", x.ends(), NONE);
        x.set(2, 0, 1);
        due("60 again", x.ends(), 60);
        due("in thought", x.count(1), 4);
    }

    private static void atWhat() {
        promise = "13 atWhat";
        MosaicOfSights x = withOne("needs 1;sees 0;turns colour;", LOOKER, 0, 0);
        for (int c = 0; c < 64; c++) {
            x.set(1, c, c < 5 ? 0 : c < 15 ? 2 : c < 25 ? 3 : 1);
        }
        fillCells(x, 25, 64);
        String before = seen(x);
        due("like ones: the first", x.atWhat(0, 5, 0), 0);
        due("many", x.atWhat(0, 5, 1), 44);
        due("6", x.atWhat(0, 6, 0), 2);
        due("6 many", x.atWhat(0, 6, 1), 45);
        due("40", x.atWhat(0, 40, 0), 2);
        due("40 many", x.atWhat(0, 40, 1), 49);
        due("0", x.atWhat(0, 0, 0), 0);
        due("0 many", x.atWhat(0, 0, 1), 39);
        unchanged(x, before);
        due("one -1", x.atWhat(-1, 0, 0), BAD);
        due("one 1", x.atWhat(1, 0, 0), BAD);
        due("n -1", x.atWhat(0, -1, 0), BAD);
        due("n 41", x.atWhat(0, 41, 0), BAD);
        due("what -1", x.atWhat(0, 0, -1), BAD);
        due("what 2", x.atWhat(0, 0, 2), BAD);
    }

    private static void want() {
        promise = "14 want";
        MosaicOfSights x = new MosaicOfSights();
        due("nobody", x.want(5, 0), NONE);
        due("nobody, as so", x.want(5, 1), 0);
        x.person(RAG, 2, 0);
        due("no better", x.want(16, 0), NONE);
        due("no better, as so", x.want(16, 1), 16);
        due("17: the first cell", x.want(17, 0), 2);
        due("17 many", x.want(17, 1), 17);
        due("20 many", x.want(20, 1), 17);
        fillCells(x, 0, 5);
        due("first that isn't filled", x.want(20, 0), 52);
        due("many", x.want(20, 1), 21);
        due("in thought", x.told(5, 1), 1);
        x.person(RAG, 3, 0);
        due("two colours, the first", x.want(20, 0), 52);
        x.set(2, 63, 1);
        x.set(2, 6, 1);
        due("n 0", x.want(0, 0), BAD);
        due("n 21", x.want(21, 0), BAD);
        due("n LOW", x.want(LOW, 0), BAD);
        due("what -1", x.want(1, -1), BAD);
        due("what 2", x.want(1, 2), BAD);
        fillCells(x, 0, 64);
        due("whole", x.want(20, 0), NONE);
        due("whole many", x.want(20, 1), 64);
        MosaicOfSights y = new MosaicOfSights();
        y.person(RAG, 2, 0);
        for (int c = 0; c < 64; c++) {
            y.set(1, c, 0);
        }
        fillCells(y, 0, 63);
        due("the last cell", y.want(1, 0), 632);
    }

    private static void idle() {
        promise = "15 idle";
        MosaicOfSights x = new MosaicOfSights();
        due("nobody", x.idle(5), NONE);
        x.person(RAG, 1, 0);
        due("needed", x.idle(5), NONE);
        due("0 days", x.idle(0), 0);
        x.person(RAG, 1, 0);
        due("8 days: both needed", x.idle(8), NONE);
        due("15 days: both needed", x.idle(15), NONE);
        due("16 days: either is idle", x.idle(16), 0);
        x.set(4, 0, 2);
        due("other colours", x.idle(16), NONE);
        x.person(RAG, 1, 0);
        due("the first of like ones is 1", x.idle(16), 1);
        due("-1", x.idle(-1), BAD);
        due("41", x.idle(41), BAD);
        due("40", x.idle(40), 1);
        due("in thought", x.count(1), 0);
        // Without the RAG's squares THE BOX stays empty, so that the LOOKER needs less: more are filled, not as many.
        MosaicOfSights y = withOne("needs 1+box;sees 0;turns 2-colour;", RAG, 0, 0);
        y.person(LOOKER, 0, 1);
        for (int c = 0; c < 64; c += 4) {
            y.set(2, c, 1);
        }
        due("more is not as many: the rag is not idle, the looker is", y.idle(3), 1);
        // It looks on: the idle LOOKER turns, which changes nothing else.
        MosaicOfSights z = withOne("needs 1;sees 0;turns colour+1;", LOOKER, 0, 0);
        fillCells(z, 0, 64);
        z.set(2, 1, 0);
        due("1 day gives what is not wanted", z.idle(1), 0);
        due("2 days fill it", z.idle(2), NONE);
    }

    private static void gap() {
        promise = "16 gap";
        MosaicOfSights x = new MosaicOfSights();
        due("all", x.gap(0), 0);
        due("all long", x.gap(1), 64);
        x.set(2, 0, 1);
        x.set(2, 32, 1);
        due("1 .. 31 and 33 .. 63: the first", x.gap(0), 1);
        due("31 long", x.gap(1), 31);
        x.set(2, 1, 1);
        due("the second", x.gap(0), 33);
        due("31 long", x.gap(1), 31);
        x.set(3, 0, 99);
        x.set(3, 1, 3);
        due("14 of colour 0, 3 of colour 1", x.gap(2), 17);
        due("all are wanted", x.gap(3), 0);
        for (int c = 2; c < 64; c += 4) {
            x.set(2, c, 1);
        }
        due("2 isn't", x.gap(3), 4);
        x.set(3, 2, 50);
        due("no more", x.gap(2), 17);
        fillCells(x, 0, 63);
        due("the last", x.gap(0), 63);
        due("1 long", x.gap(1), 1);
        due("only 3", x.gap(3), 7);
        due("none in the box", x.gap(2), 0);
        x.set(2, 63, 1);
        due("whole", x.gap(0), NONE);
        due("whole long", x.gap(1), 0);
        due("whole patch", x.gap(2), 0);
        due("whole colours", x.gap(3), 15);
        due("-1", x.gap(-1), BAD);
        due("4", x.gap(4), BAD);
    }

    private static void share() {
        promise = "17 share";
        MosaicOfSights x = new MosaicOfSights();
        due("nobody", x.share(0), NO);
        x.person(LOOKER, 0, 0);
        x.person(LOOKER, 0, 0);
        due("none", x.share(0), NO);
        due("none", x.share(1), NO);
        x.set(7, 0, 1);
        due("0 of 1", x.share(0), 0);
        due("0 of 1", x.share(1), 1);
        x.set(7, 0, 6);
        due("0 of 6", x.share(0), 0);
        due("0 of 6", x.share(1), 1);
        x.set(7, 1, 12);
        fillCells(x, 0, 12);
        due("12 of 18", x.share(0), 2);
        due("12 of 18", x.share(1), 3);
        fillCells(x, 0, 64);
        due("64 of 18", x.share(0), 32);
        due("64 of 18", x.share(1), 9);
        x.set(7, 1, 99);
        due("64 of 105", x.share(0), 64);
        due("64 of 105", x.share(1), 105);
        due("-1", x.share(-1), NO);
        due("2", x.share(2), NO);
    }

    private static void tells() {
        promise = "18 tells";
        MosaicOfSights x = new MosaicOfSights();
        x.person(LOOKER, 1, 2);
        x.person(RAG, 1, 0);
        String before = seen(x);
        // The RAG fills one a DAY, the LOOKER one each second DAY.
        row(x, 0, 2, 1, 3, 4, 6);
        due("as told", x.tells(0, 0, 0), NONE);
        due("looker could be kinds", x.tells(0, 0, 1), kindsBy(x, 0));
        due("number", x.tells(0, 0, 2), 1023);
        due("colours", x.tells(0, 0, 3), 15);
        due("looked only 0", x.tells(0, 0, 4), 1);
        due("looked least", x.tells(0, 0, 5), 0);
        due("rag looked anything", x.tells(0, 1, 4), 100);
        due("rag could not be the looker", x.tells(0, 1, 1) & 1, 0);
        due("texts", x.tells(0, 0, 6), 1);
        x.set(6, 0, 1);
        due("the first is otherwise", x.tells(0, 0, 0), 0);
        row(x, 0, 1, 2, 3, 5, 6);
        due("as told", x.tells(0, 0, 0), NONE);
        due("looked 1 or more", x.tells(0, 0, 4), 99);
        due("looked least", x.tells(0, 0, 5), 1);
        row(x, 0, 0, 2, 3, 5, 7);
        due("the last is otherwise", x.tells(0, 0, 0), 3);
        due("never so", x.tells(0, 0, 4), 0);
        due("no least", x.tells(0, 0, 5), NONE);
        due("texts", x.tells(0, 0, 6), 0);
        due("text", write(x, "needs 1;sees 0;turns 0;"), 1);
        due("text", write(x, "needs 2;sees 5;turns day;"), 2);
        row(x, 0, 0, 2, 3, 5);
        due("texts 0 and 2", x.tells(0, 0, 6), 5);
        row(x, 0, 0, 2, 4, 6);
        due("text 1", x.tells(0, 0, 6), 2);
        due("the rule is as it was", x.count(5), 0);
        row(x, 3, 0);
        due("nothing is otherwise", x.tells(3, 0, 0), NONE);
        due("all kinds", x.tells(3, 0, 1), 63);
        due("all numbers", x.tells(3, 0, 2), 1023);
        due("all colours", x.tells(3, 0, 3), 15);
        due("all days", x.tells(3, 0, 4), 100);
        due("all texts", x.tells(3, 0, 6), 7);
        x.set(6, 0, 0);
        due("kinds stay", x.told(0, 8), LOOKER);
        due("people", before.isEmpty() ? 0 : x.count(0), 2);
        // A colour that is wanted no more can be told from the others.
        MosaicOfSights y = new MosaicOfSights();
        y.person(LOOKER, 0, 1);
        for (int c = 1; c < 64; c += 4) {
            y.set(2, c, 1);
        }
        row(y, 0, 0, 16, 16);
        due("colour 1", y.tells(0, 0, 3), 2);
        row(y, 0, 0, 16, 17);
        due("other colours", y.tells(0, 0, 3), 13);
        MosaicOfSights z = new MosaicOfSights();
        z.person(BOY, 3, 1);
        row(z, 0, 0, 0, 0, 0, 0, 1);
        due("number 3", z.tells(0, 0, 2), 8);
        due("boy alone", z.tells(0, 0, 1) & 5, 4);
        due("day 1000 in thought", z.set(0, 0, 999), 0);
        due("as told", z.tells(0, 0, 0), NONE);
    }

    /** What KINDS the first of these could be, by objects made for it. */
    private static int kindsBy(MosaicOfSights x, int one) {
        int bits = 0;
        int[] told = {1, 3, 4, 6};
        for (int kind = 0; kind < 6; kind++) {
            MosaicOfSights y = new MosaicOfSights();
            y.person(kind, x.told(one, 4), x.told(one, 5));
            y.person(RAG, 1, 0);
            boolean same = true;
            for (int d = 0; d < told.length; d++) {
                same &= y.day() == told[d];
            }
            bits |= same ? 1 << kind : 0;
        }
        return bits;
    }

    private static void tellsRefuses() {
        promise = "18 tells refuses";
        MosaicOfSights x = new MosaicOfSights();
        due("nobody", x.tells(0, 0, 0), BAD);
        x.person(LOOKER, 1, 2);
        due("missing", x.tells(0, 0, 0), NOTHING);
        due("one ahead of missing", x.tells(0, 1, 0), BAD);
        due("what ahead of missing", x.tells(0, 0, 7), BAD);
        due("what -1", x.tells(0, 0, -1), BAD);
        due("one -1", x.tells(0, -1, 0), BAD);
        due("sheet -1", x.tells(-1, 0, 0), BAD);
        due("sheet 4", x.tells(4, 0, 0), BAD);
        x.sheet(0, 0, 21);
        due("21", x.tells(0, 0, 0), BAD);
        x.sheet(0, 0, 20);
        due("20", x.tells(0, 0, 0), 1);
        row(x, 1, 0, 256, 257);
        due("bytes", x.tells(1, 0, 0), NONE);
        row(x, 1, 1, 256, 1);
        due("shorts", x.tells(1, 0, 0), 0);
        row(x, 1, 1, 65536, 65537);
        due("shorts", x.tells(1, 0, 0), NONE);
        row(x, 1, 2, 0, 65537);
        due("ints", x.tells(1, 0, 0), 1);
    }

    private static void film() {
        promise = "19 film";
        MosaicOfSights x = new MosaicOfSights();
        due("nobody", x.film(0, 3), 3);
        due("it is there", x.cell(0, 2, 0), 1);
        due("and no more", x.cell(0, 3, 0), OUTSIDE);
        x.person(RAG, 3, 0);
        due("film", x.film(1, 20), 20);
        due("as told", x.tells(1, 0, 0), NONE);
        due("in thought", x.count(1), 0);
        due("no days", x.count(2), 0);
        x.sheet(2, 2, 5);
        due("bytes now", x.film(2, 2), 2);
        due("like sorts", x.copy(1, 0, 2, 0, 2), 2);
        due("bytes", x.exarchate(2, 0, 0, 0), 0);
        due("ints no more", x.exarchate(2, 2, 0, 0), OTHER_SORT);
        due("0", x.film(2, 0), 0);
        due("none", x.cell(2, 0, 0), OUTSIDE);
        due("n -1", x.film(2, -1), BAD);
        due("n 21", x.film(1, 21), BAD);
        due("sheet -1", x.film(-1, 0), BAD);
        due("sheet 4", x.film(4, 0), BAD);
        due("stays", x.tells(1, 0, 0), NONE);
        due("missing stays", x.film(3, 21), BAD);
        due("missing", x.cell(3, 0, 0), NOTHING);
    }

    private static int drawnBy(int seed, int colour) {
        int z = seed;
        int many = 0;
        for (int c = 0; c < 64; c++) {
            z = z * 1103515245 + 12345;
            many += (z >>> 9) % 4 == colour ? 1 : 0;
        }
        return many;
    }

    private static void drawn() {
        promise = "20 drawn";
        MosaicOfSights x = new MosaicOfSights();
        due("nobody", x.drawn(7, 40), 0);
        x.person(RAG, 1, 0);
        int[] seeds = {0, 1, -1, 12345, LOW, HIGH, 987654321};
        for (int seed : seeds) {
            due("seed " + seed, x.drawn(seed, 40), Math.min(40, drawnBy(seed, 1)));
            due("seed " + seed + ", 5 days", x.drawn(seed, 5), 5);
            due("seed " + seed + ", 0 days", x.drawn(seed, 0), 0);
        }
        due("wants stay", x.picture(1), 0x2222222222222222L);
        fillCells(x, 0, 64);
        due("what is filled stays so", x.drawn(3, 4), 64);
        due("n -1", x.drawn(0, -1), BAD);
        due("n 41", x.drawn(0, 41), BAD);
    }

    private static void chance() {
        promise = "21 chance";
        MosaicOfSights x = new MosaicOfSights();
        due("nobody, 0", x.chance(5, 20, 0, 0), 1);
        due("nobody, 0", x.chance(5, 20, 0, 1), 1);
        due("nobody, 1", x.chance(5, 20, 1, 0), 0);
        due("nobody, 1", x.chance(5, 20, 1, 1), 1);
        x.person(RAG, 1, 0);
        fillCells(x, 0, 40);
        int[] seeds = {0, 77, -5, HIGH - 3};
        for (int seed : seeds) {
            for (int m = 1; m <= 20; m++) {
                MosaicOfSights z = new MosaicOfSights();
                z.person(RAG, 1, 0);
                fillCells(z, 0, 40);
                int good = 0;
                for (int i = 0; i < m; i++) {
                    good += z.drawn(seed + i, 12) >= 47 ? 1 : 0;
                }
                long above = z.chance(seed, m, 47, 0);
                long below = z.chance(seed, m, 47, 1);
                due("chance " + seed + " " + m, above * m, good * below);
                long common = java.math.BigInteger.valueOf(above).gcd(java.math.BigInteger.valueOf(below)).longValue();
                due("lowest", common, 1);
            }
        }
        // A MONK who needs 1 day gives what is wanted, each day.
        MosaicOfSights y = withOne("needs 1;sees 0;turns 0;", MONK, 0, 0);
        y.set(3, 0, 1);
        due("12 days fill 12", y.chance(3, 20, 12, 0), 1);
        due("12 days fill no 13", y.chance(3, 20, 13, 0), 0);
        due("k 64", x.chance(3, 20, 64, 0), 0);
        due("m 0", x.chance(0, 0, 0, 0), NO);
        due("m 21", x.chance(0, 21, 0, 0), NO);
        due("k -1", x.chance(0, 1, -1, 0), NO);
        due("k 65", x.chance(0, 1, 65, 0), NO);
        due("part -1", x.chance(0, 1, 0, -1), NO);
        due("part 2", x.chance(0, 1, 0, 2), NO);
    }

    private static void imageAndBack() {
        promise = "22, 23 image, back";
        MosaicOfSights x = new MosaicOfSights();
        due("none yet", x.back(), STATE);
        x.person(LOOKER, 1, 2);
        x.person(WIFE, 5, 3);
        x.set(1, 5, 0);
        x.set(2, 6, 1);
        x.set(3, 2, 8);
        x.set(6, 0, 1);
        x.set(7, 1, 4);
        x.set(0, 0, 30);
        due("text", write(x, "needs 9;sees 0;turns 0;"), 1);
        due("force", x.force(1), 0);
        String before = seen(x);
        due("image", x.image(), 2);
        unchanged(x, before);
        x.force(0);
        x.set(0, 0, 3);
        x.set(1, 5, 2);
        x.set(2, 6, 0);
        x.set(2, 7, 1);
        x.set(3, 2, 0);
        x.set(4, 1, 0);
        x.set(5, 1, 0);
        x.set(6, 0, 50);
        x.set(7, 1, 90);
        due("another", x.person(RAG, 9, 1), 2);
        x.day();
        due("back", x.back(), 2);
        unchanged(x, before);
        due("gone", x.told(2, 8), NONE_SUCH);
        x.person(RAG, 9, 1);
        x.day();
        x.day();
        due("back again", x.back(), 2);
        unchanged(x, before);
        due("comes anew", x.person(BOY, 2, 1), 2);
        due("kind", x.told(2, 8), BOY);
        due("gave 0", x.told(2, 7), 0);
        due("looked 0", x.told(2, 6), 0);
        due("image", x.image(), 3);
        x.day();
        due("the newer one", x.back(), 3);
        due("text 2", write(x, "needs 8;sees 0;turns 0;"), 2);
        x.feed('a');
        x.sheet(0, 0, 1);
        x.back();
        due("texts stay", x.count(3), 3);
        due("the tape stays", x.count(4), 1);
        due("sheets stay", x.cell(0, 0, 1), 1);
        MosaicOfSights y = new MosaicOfSights();
        due("of nobody", y.image(), 0);
        y.person(RAG, 0, 0);
        due("back to nobody", y.back(), 0);
        due("nobody", y.count(0), 0);
    }

    private static void count() {
        promise = "24 count";
        MosaicOfSights x = new MosaicOfSights();
        x.person(LOOKER, 0, 0);
        x.person(LOOKER, 0, 0);
        fillCells(x, 3, 8);
        x.set(0, 0, 44);
        write(x, "needs 9;sees 0;turns 0;");
        write(x, "needs 9;sees 0;turns 0;");
        x.force(2);
        fill(x, "abcdefg");
        int[] dues = {2, 5, 44, 3, 7, 2};
        for (int what = 0; what < 6; what++) {
            due("count " + what, x.count(what), dues[what]);
        }
        due("-1", x.count(-1), BAD);
        due("6", x.count(6), BAD);
    }

    private static void sheet() {
        promise = "25 sheet";
        MosaicOfSights x = new MosaicOfSights();
        due("40", x.sheet(3, 2, 40), 1);
        due("last", x.cell(3, 39, 5), 1);
        due("behind", x.cell(3, 40, 5), OUTSIDE);
        due("41", x.sheet(3, 2, 41), BAD);
        due("HIGH", x.sheet(3, 2, HIGH), BAD);
        due("-1 long", x.sheet(3, 2, -1), BELOW_ZERO);
        due("LOW long", x.sheet(3, 2, LOW), BELOW_ZERO);
        due("stays", x.cell(3, 39, 5), 1);
        due("sort 3", x.sheet(3, 3, -1), BAD);
        due("sort -2", x.sheet(3, -2, 1), BAD);
        due("sheet -1", x.sheet(-1, 0, -1), BAD);
        due("sheet 4", x.sheet(4, 0, 1), BAD);
        due("missing", x.sheet(3, -1, HIGH), 1);
        due("missing", x.cell(3, 0, 0), NOTHING);
        due("missing again", x.sheet(3, -1, LOW), 1);
        due("empty", x.sheet(0, 1, 0), 1);
        due("nothing in it", x.cell(0, 0, 0), OUTSIDE);
        row(x, 1, 0, 1, 1, 1);
        due("anew", x.sheet(1, 0, 3), 1);
        due("all 0: a looker of number 0", x.exarchate(1, 0, 0, 1), 1);
        due("kind", x.told(0, 8), LOOKER);
        due("number", x.told(0, 4), 0);
        due("colour", x.told(0, 5), 0);
    }

    private static void cell() {
        promise = "26 cell";
        MosaicOfSights x = new MosaicOfSights();
        due("missing", x.cell(0, 0, 0), NOTHING);
        due("missing ahead of outside", x.cell(0, -1, 0), NOTHING);
        x.sheet(0, 0, 3);
        due("-1", x.cell(0, -1, 0), OUTSIDE);
        due("3", x.cell(0, 3, 0), OUTSIDE);
        due("LOW", x.cell(0, LOW, 0), OUTSIDE);
        due("sheet -1", x.cell(-1, 0, 0), BAD);
        due("sheet 4", x.cell(4, 0, 0), BAD);
        int[] wide = {0x105, 0x10005, 5};
        int[] other = {0x209, 0x7FFF0009, 9};
        for (int sort = 0; sort < 3; sort++) {
            MosaicOfSights y = new MosaicOfSights();
            row(y, 0, sort, wide[sort], other[sort], -1 << 16);
            due("comes by the lowest bits", y.exarchate(0, sort, 0, 1), sort < 2 ? 1 : 0);
            due("kind", y.told(0, 8), sort < 2 ? RAG : NONE_SUCH);
            due("number", y.told(0, 4), sort < 2 ? 9 : NONE_SUCH);
            row(y, 1, sort, 0x105, 0, 0);
            due("0x105 is 5 of bytes", y.exarchate(1, sort, 0, 1), sort == 0 ? 1 : 0);
        }
    }

    private static void copy() {
        promise = "27 copy";
        MosaicOfSights x = new MosaicOfSights();
        due("missing", x.copy(0, 0, 1, 0, 0), NOTHING);
        row(x, 0, 0, 1, 2, 3, 4, 5, 6);
        due("other missing", x.copy(0, 0, 1, 0, 0), NOTHING);
        due("missing first", x.copy(1, 0, 0, 0, 0), NOTHING);
        x.sheet(1, 1, 3);
        due("unlike", x.copy(0, 0, 1, 0, 1), OTHER_SORT);
        due("unlike ahead of outside", x.copy(0, 9, 1, -1, -1), OTHER_SORT);
        x.sheet(1, 0, 3);
        due("copy", x.copy(0, 4, 1, 0, 2), 2);
        due("rag 6", x.exarchate(1, 0, 0, 1), 1);
        due("number", x.told(0, 4), 6);
        due("kind", x.told(0, 8), RAG);
        due("overlap upward", x.copy(0, 0, 0, 1, 5), 5);
        due("1 1 2 3 4 5", x.exarchate(0, 0, 0, 2), 1);
        due("kind", x.told(1, 8), WIFE);
        due("number", x.told(1, 4), 1);
        due("colour", x.told(1, 5), 2);
        due("3 numbers", x.copy(0, 1, 0, 0, 5), 5);
        due("1 2 3 4 5 5", x.exarchate(0, 0, 0, 1), 1);
        due("kind", x.told(2, 8), WIFE);
        due("number", x.told(2, 4), 2);
        due("colour", x.told(2, 5), 3);
        due("n 0 at the ends", x.copy(0, 6, 1, 3, 0), 0);
        due("n 0 behind", x.copy(0, 7, 1, 0, 0), OUTSIDE);
        due("n 0 behind the other", x.copy(0, 0, 1, 4, 0), OUTSIDE);
        due("n -1", x.copy(0, 0, 1, 0, -1), OUTSIDE);
        due("n LOW", x.copy(0, 0, 1, 0, LOW), OUTSIDE);
        due("n HIGH", x.copy(0, 1, 1, 1, HIGH), OUTSIDE);
        due("i -1", x.copy(0, -1, 1, 0, 1), OUTSIDE);
        due("j -1", x.copy(0, 0, 1, -1, 1), OUTSIDE);
        due("i HIGH", x.copy(0, HIGH, 1, 0, 1), OUTSIDE);
        due("j HIGH", x.copy(0, 0, 1, HIGH, 1), OUTSIDE);
        due("one too many", x.copy(0, 0, 1, 0, 4), OUTSIDE);
        due("one too far", x.copy(0, 4, 1, 0, 3), OUTSIDE);
        due("sheet -1", x.copy(-1, 0, 0, 0, 0), BAD);
        due("sheet 4", x.copy(0, 0, 4, 0, 0), BAD);
    }

    private static void exarchate() {
        promise = "28 exarchate";
        MosaicOfSights x = new MosaicOfSights();
        due("missing", x.exarchate(0, 0, 0, 0), NOTHING);
        due("n ahead of missing", x.exarchate(0, 0, 0, 6), BAD);
        due("n -1", x.exarchate(0, 0, 0, -1), BAD);
        due("sort ahead of missing", x.exarchate(0, 3, 0, 0), BAD);
        due("sort -1", x.exarchate(0, -1, 0, 0), BAD);
        due("sheet -1", x.exarchate(-1, 0, 0, 0), BAD);
        due("sheet 4", x.exarchate(4, 0, 0, 0), BAD);
        row(x, 0, 1, 7, 5, 9, 3, 6, 0, 0, 4, 2, 1, 1, 1);
        due("other sort", x.exarchate(0, 0, 0, 0), OTHER_SORT);
        due("other sort ahead of outside", x.exarchate(0, 2, -1, 3), OTHER_SORT);
        due("n 0", x.exarchate(0, 1, 0, 0), 0);
        due("n 0 reads no place", x.exarchate(0, 1, 50, 0), 0);
        due("from -1", x.exarchate(0, 1, -1, 1), OUTSIDE);
        due("from LOW", x.exarchate(0, 1, LOW, 5), OUTSIDE);
        due("from HIGH", x.exarchate(0, 1, HIGH, 5), OUTSIDE);
        due("nobody came", x.count(0), 0);
        due("three, one left out", x.exarchate(0, 1, 1, 3), 2);
        due("kind", x.told(0, 8), RAG);
        due("number", x.told(0, 4), 9);
        due("colour", x.told(0, 5), 3);
        due("kind", x.told(1, 8), MONK);
        due("last place alone", x.exarchate(0, 1, 10, 1), OUTSIDE);
        due("nobody", x.count(0), 2);
        due("what stood ahead came", x.exarchate(0, 1, 7, 5), OUTSIDE);
        due("one came", x.count(0), 3);
        row(x, 1, 2, 0, 1, 0, 1, 2, 1, 2, 3, 2);
        due("two have room", x.exarchate(1, 2, 0, 3), 2);
        due("five", x.count(0), 5);
        due("wife", x.told(4, 8), WIFE);
        due("full, and outside", x.exarchate(1, 2, 0, 4), OUTSIDE);
        due("full", x.exarchate(1, 2, 0, 3), 0);
        row(x, 1, 0, 0, 1);
        due("too short", x.exarchate(1, 0, 0, 1), OUTSIDE);
    }

    private static void taken() {
        promise = "29 taken";
        boolean[][] under = {
            {true, false, false, false, false, false},
            {true, true, false, false, false, false},
            {true, false, true, false, false, false},
            {true, true, false, true, false, false},
            {true, false, true, false, true, false},
            {true, false, false, false, false, true}};
        for (int kind = 0; kind < 6; kind++) {
            MosaicOfSights x = new MosaicOfSights();
            x.person(RAG, 3, 0);
            x.person(kind, 7, 0);
            for (int k = 0; k < 6; k++) {
                due("kind " + kind + " for " + k, x.taken(1, k), under[kind][k] ? 7 : OTHER_SORT);
            }
            due("k -1", x.taken(1, -1), BAD);
            due("k 6", x.taken(1, 6), BAD);
            due("none such", x.taken(2, 0), NOTHING);
            due("one -1", x.taken(-1, 0), NOTHING);
            due("k ahead of none such", x.taken(2, 6), BAD);
        }
    }
}
