import java.math.BigInteger;
import java.util.ArrayList;
import java.util.Arrays;
import java.util.List;
import java.util.Random;

/**
 * Long drawn runs of calls, each answer beside that of a second, slow program, which is written another way:
 * kinds are classes, a text is a tree read from a list of tokens, each thought is a deep copy.
 */
public final class ModelTest {
    private static final int NONE = -1, BAD = -2, STATE = -3, FULL = -4;
    private static final long NO = -4611686018427387904L;

    interface Expr {
        int of(Model m, Looker p);
    }

    static final class Fault extends RuntimeException {
        final int place;

        Fault(int place) {
            this.place = place;
        }
    }

    record Token(String s, int place) {
    }

    /** Reads by cutting the tape into tokens first; a bad one is kept and only matters when it is reached. */
    static final class Grammar {
        final List<Token> tokens = new ArrayList<>();
        int next = 0;
        int open = 0;

        Grammar(String tape) {
            int i = 0;
            while (i < tape.length()) {
                char c = tape.charAt(i);
                if (c == ' ' || c == '\n') {
                    i++;
                    continue;
                }
                int j = i + 1;
                if (c >= 'a' && c <= 'z') {
                    while (j < tape.length() && tape.charAt(j) >= 'a' && tape.charAt(j) <= 'z') {
                        j++;
                    }
                } else if (c >= '0' && c <= '9') {
                    while (j < tape.length() && tape.charAt(j) >= '0' && tape.charAt(j) <= '9') {
                        j++;
                    }
                }
                tokens.add(new Token(tape.substring(i, j), i));
                i = j;
            }
            tokens.add(new Token("", tape.length()));
        }

        Token peek() {
            return tokens.get(next);
        }

        boolean is(String s) {
            return peek().s.equals(s);
        }

        void must(String s) {
            if (!is(s)) {
                throw new Fault(peek().place);
            }
            next++;
        }

        void enter() {
            if (open == 5) {
                throw new Fault(peek().place);
            }
            open++;
            next++;
        }

        Expr[] whole() {
            Expr[] parts = new Expr[3];
            String[] keys = {"needs", "sees", "turns"};
            for (int i = 0; i < 3; i++) {
                must(keys[i]);
                parts[i] = level(0);
                must(";");
            }
            must("");
            return parts;
        }

        /** Levels: 0 or, 1 and, 2 not and comparisons, 3 sums, 4 terms, 5 ones. */
        Expr level(int level) {
            if (level == 5) {
                return one();
            }
            if (level == 2) {
                return not();
            }
            String signs = level == 0 ? " or " : level == 1 ? " and " : level == 3 ? " + - " : " * ";
            Expr left = level(level + 1);
            while (!is("") && signs.contains(" " + peek().s + " ")) {
                String sign = peek().s;
                next++;
                left = pair(sign, left, level(level + 1));
            }
            return left;
        }

        Expr not() {
            if (is("not")) {
                enter();
                Expr e = not();
                open--;
                return (m, p) -> e.of(m, p) == 0 ? 1 : 0;
            }
            Expr left = level(3);
            if (is("<") || is("=")) {
                String sign = peek().s;
                next++;
                return pair(sign, left, level(3));
            }
            return left;
        }

        Expr one() {
            String s = peek().s;
            if (s.equals("(")) {
                enter();
                Expr e = level(0);
                must(")");
                open--;
                return e;
            }
            if (s.equals("-")) {
                enter();
                Expr e = one();
                open--;
                return (m, p) -> -e.of(m, p);
            }
            Expr e = s.matches("[0-9]{1,4}") ? number(Integer.parseInt(s)) : name(s);
            if (e == null) {
                throw new Fault(peek().place);
            }
            next++;
            return e;
        }

        static Expr number(int v) {
            return (m, p) -> v;
        }

        static Expr name(String s) {
            switch (s) {
                case "looked": return (m, p) -> p.looked;
                case "colour": return (m, p) -> p.at;
                case "number": return (m, p) -> p.number;
                case "day": return (m, p) -> m.day;
                case "filled": return (m, p) -> m.filled();
                case "box": return (m, p) -> m.boxed();
                default: return null;
            }
        }

        static Expr pair(String sign, Expr a, Expr b) {
            switch (sign) {
                case "or": return (m, p) -> a.of(m, p) != 0 | b.of(m, p) != 0 ? 1 : 0;
                case "and": return (m, p) -> a.of(m, p) != 0 & b.of(m, p) != 0 ? 1 : 0;
                case "<": return (m, p) -> a.of(m, p) < b.of(m, p) ? 1 : 0;
                case "=": return (m, p) -> a.of(m, p) == b.of(m, p) ? 1 : 0;
                case "+": return (m, p) -> a.of(m, p) + b.of(m, p);
                case "-": return (m, p) -> a.of(m, p) - b.of(m, p);
                default: return (m, p) -> a.of(m, p) * b.of(m, p);
            }
        }
    }

    static class Looker {
        int number;
        int at;
        int looked;
        int gave;

        int v(Model m, int part) {
            int v = m.texts.get(m.rule)[part].of(m, this);
            return part == 0 ? Math.max(0, Math.min(99, v)) : Math.max(-99, Math.min(99, v));
        }

        int rawNeeds(Model m) {
            return v(m, 0);
        }

        int rawGives(Model m) {
            return at;
        }

        int rawTurns(Model m) {
            return v(m, 2);
        }

        final int needs(Model m) {
            return Math.max(1, Math.min(99, rawNeeds(m)));
        }

        final int gives(Model m) {
            return ((rawGives(m) % 4) + 4) % 4;
        }

        final int turns(Model m) {
            return ((rawTurns(m) % 4) + 4) % 4;
        }
    }

    static class Wife extends Looker {
        @Override
        int rawNeeds(Model m) {
            return super.rawNeeds(m) / 2;
        }

        @Override
        int rawGives(Model m) {
            return v(m, 1);
        }

        @Override
        int rawTurns(Model m) {
            return at;
        }
    }

    static class Boy extends Looker {
        @Override
        int rawNeeds(Model m) {
            return super.rawNeeds(m) + number;
        }

        @Override
        int rawGives(Model m) {
            return super.rawGives(m) + 1;
        }

        @Override
        int rawTurns(Model m) {
            return super.rawTurns(m) + at;
        }
    }

    static final class Deacon extends Wife {
        @Override
        int rawNeeds(Model m) {
            return super.rawNeeds(m) + 3;
        }

        @Override
        int rawGives(Model m) {
            return m.day % 2 == 1 ? super.rawGives(m) : at;
        }

        @Override
        int rawTurns(Model m) {
            return super.rawTurns(m) + number;
        }
    }

    static final class Monk extends Boy {
        @Override
        int rawNeeds(Model m) {
            return m.boxed() == 0 ? 2 : super.rawNeeds(m);
        }

        @Override
        int rawGives(Model m) {
            for (int c = 0; c < 64; c++) {
                if (!m.full[c]) {
                    return m.wants[c];
                }
            }
            return super.rawGives(m);
        }
    }

    static final class Rag extends Looker {
        @Override
        int rawNeeds(Model m) {
            return 1;
        }

        @Override
        int rawGives(Model m) {
            return number;
        }

        @Override
        int rawTurns(Model m) {
            return super.rawTurns(m) - number;
        }
    }

    static final Class<?>[] KINDS = {Looker.class, Wife.class, Boy.class, Deacon.class, Monk.class, Rag.class};

    static Looker make(int kind, int number, int at) {
        Looker p = kind == 0 ? new Looker() : kind == 1 ? new Wife() : kind == 2 ? new Boy()
                : kind == 3 ? new Deacon() : kind == 4 ? new Monk() : new Rag();
        p.number = number;
        p.at = at;
        return p;
    }

    static int kindOf(Looker p) {
        return Arrays.asList(KINDS).indexOf(p.getClass());
    }

    static final class Model {
        int[] wants = new int[64];
        boolean[] full = new boolean[64];
        int day;
        int[] box = new int[4];
        List<Looker> people = new ArrayList<>();
        int rule;
        List<Expr[]> texts = new ArrayList<>();
        StringBuilder tape = new StringBuilder();
        Object[] sheets = new Object[4];
        Model image;

        Model() {
            for (int c = 0; c < 64; c++) {
                wants[c] = c % 4;
            }
            texts.add(new Grammar("needs 2 ; sees day ; turns day + number ;").whole());
        }

        Model thought() {
            Model m = new Model();
            m.texts = texts;
            m.wants = wants.clone();
            m.full = full.clone();
            m.day = day;
            m.box = box.clone();
            m.rule = rule;
            for (Looker p : people) {
                Looker q = make(kindOf(p), p.number, p.at);
                q.looked = p.looked;
                q.gave = p.gave;
                m.people.add(q);
            }
            return m;
        }

        int filled() {
            int n = 0;
            for (boolean f : full) {
                n += f ? 1 : 0;
            }
            return n;
        }

        int boxed() {
            return box[0] + box[1] + box[2] + box[3];
        }

        void aDay(int silent) {
            for (int i = 0; i < people.size(); i++) {
                Looker p = people.get(i);
                p.looked = Math.min(99, p.looked + 1);
                if (p.looked >= p.needs(this)) {
                    int colour = p.gives(this);
                    int turn = p.turns(this);
                    if (i != silent) {
                        p.gave = Math.min(99, p.gave + 1);
                        give(colour);
                    }
                    p.at = turn;
                    p.looked = 0;
                }
            }
            day++;
        }

        void give(int colour) {
            for (int c = 0; c < 64; c++) {
                if (!full[c] && wants[c] == colour) {
                    full[c] = true;
                    return;
                }
            }
            box[colour] = Math.min(99, box[colour] + 1);
        }

        Model days(int n, int silent) {
            for (int i = 0; i < n; i++) {
                aDay(silent);
            }
            return this;
        }

        boolean one(int one) {
            return 0 <= one && one < people.size();
        }

        static boolean in(int v, int least, int most) {
            return least <= v && v <= most;
        }

        boolean there(int what, int of) {
            return what == 0 || (what <= 2 ? in(of, 0, 63) : what == 3 ? in(of, 0, 3) : one(of));
        }

        int told(int of, int what) {
            if (!in(what, 0, 11) || !there(what, of)) {
                return -1000;
            }
            switch (what) {
                case 0: return day;
                case 1: return wants[of];
                case 2: return full[of] ? 1 : 0;
                case 3: return box[of];
                default:
            }
            Looker p = people.get(of);
            switch (what) {
                case 4: return p.number;
                case 5: return p.at;
                case 6: return p.looked;
                case 7: return p.gave;
                case 8: return kindOf(p);
                case 9: return p.needs(this);
                case 10: return p.gives(this);
                default: return p.turns(this);
            }
        }

        int set(int what, int of, int v) {
            int[] most = {999, 3, 1, 99, 9, 3, 99, 99};
            if (!in(what, 0, 7) || !there(what, of) || !in(v, 0, most[what])) {
                return BAD;
            }
            int was = told(of, what);
            switch (what) {
                case 0 -> day = v;
                case 1 -> wants[of] = v;
                case 2 -> full[of] = v == 1;
                case 3 -> box[of] = v;
                case 4 -> people.get(of).number = v;
                case 5 -> people.get(of).at = v;
                case 6 -> people.get(of).looked = v;
                default -> people.get(of).gave = v;
            }
            return was;
        }

        int person(int kind, int number, int colour) {
            if (!in(kind, 0, 5) || !in(number, 0, 9) || !in(colour, 0, 3)) {
                return BAD;
            }
            if (people.size() == 5) {
                return FULL;
            }
            people.add(make(kind, number, colour));
            return people.size() - 1;
        }

        long picture(int what) {
            if (!in(what, 0, 4)) {
                return NO;
            }
            long bits = 0;
            for (int c = 0; c < 64; c++) {
                bits |= (what == 4 ? full[c] : wants[c] == what) ? 1L << c : 0;
            }
            return bits;
        }

        int feed(int letter) {
            if (!in(letter, 0, 255)) {
                return BAD;
            }
            if (tape.length() == 160) {
                return FULL;
            }
            tape.append((char) letter);
            return tape.length();
        }

        int text() {
            if (texts.size() == 6) {
                return FULL;
            }
            String read = tape.toString();
            tape.setLength(0);
            try {
                texts.add(new Grammar(read).whole());
                return texts.size() - 1;
            } catch (Fault f) {
                return -100 - f.place;
            }
        }

        int force(int text) {
            if (!in(text, 0, texts.size() - 1)) {
                return BAD;
            }
            int was = rule;
            rule = text;
            return was;
        }

        int day() {
            if (day == 999) {
                return STATE;
            }
            aDay(NONE);
            return filled();
        }

        int run(int one, int n, int what) {
            if (!one(one) || !in(n, 0, 40) || !in(what, 0, 4)) {
                return BAD;
            }
            Model m = thought().days(n, NONE);
            Looker p = m.people.get(one);
            return new int[] {m.filled(), m.boxed(), p.at, p.looked, p.gave}[what];
        }

        long later(int n) {
            return in(n, 0, 40) ? thought().days(n, NONE).picture(4) : NO;
        }

        int ends() {
            for (int n = 0; n <= 60; n++) {
                if (thought().days(n, NONE).filled() == 64) {
                    return n;
                }
            }
            return NONE;
        }

        int atWhat(int one, int n, int what) {
            if (!one(one) || !in(n, 0, 40) || !in(what, 0, 1)) {
                return BAD;
            }
            int[] many = new int[4];
            for (int c = 0; c < 4; c++) {
                Model m = thought();
                m.people.get(one).at = c;
                many[c] = m.days(n, NONE).filled();
            }
            int most = Arrays.stream(many).max().getAsInt();
            int first = 0;
            while (many[first] < most) {
                first++;
            }
            return what == 0 ? first : most;
        }

        int want(int n, int what) {
            if (!in(n, 1, 20) || !in(what, 0, 1)) {
                return BAD;
            }
            int most = thought().days(n, NONE).filled();
            int best = NONE;
            for (int c = 0; c < 64; c++) {
                for (int colour = 0; colour < 4 && !full[c]; colour++) {
                    Model m = thought();
                    m.wants[c] = colour;
                    int many = m.days(n, NONE).filled();
                    if (many > most) {
                        most = many;
                        best = 10 * c + colour;
                    }
                }
            }
            return what == 0 ? best : most;
        }

        int idle(int n) {
            if (!in(n, 0, 40)) {
                return BAD;
            }
            int so = thought().days(n, NONE).filled();
            for (int i = 0; i < people.size(); i++) {
                if (thought().days(n, i).filled() == so) {
                    return i;
                }
            }
            return NONE;
        }

        int gap(int what) {
            if (!in(what, 0, 3)) {
                return BAD;
            }
            int best = NONE;
            int longest = 0;
            for (int from = 0; from < 64; from++) {
                int to = from;
                while (to < 64 && !full[to]) {
                    to++;
                }
                if (to - from > longest) {
                    longest = to - from;
                    best = from;
                }
            }
            Model m = thought();
            int patched = 0;
            int unwanted = 15;
            for (int c = 0; c < 64; c++) {
                if (!full[c]) {
                    unwanted &= ~(1 << wants[c]);
                    if (m.box[wants[c]] > 0) {
                        m.box[wants[c]]--;
                        patched++;
                    }
                }
            }
            return new int[] {best, longest, patched, unwanted}[what];
        }

        static long lowest(long above, long below, int part) {
            long g = BigInteger.valueOf(above).gcd(BigInteger.valueOf(below)).longValue();
            return part == 0 ? above / g : below / g;
        }

        long share(int part) {
            int given = 0;
            for (Looker p : people) {
                given += p.gave;
            }
            return !in(part, 0, 1) || given == 0 ? NO : lowest(filled(), given, part);
        }

        static int size(Object sheet) {
            return java.lang.reflect.Array.getLength(sheet);
        }

        static int at(Object sheet, int i) {
            return java.lang.reflect.Array.getInt(sheet, i);
        }

        boolean fits(Object sheet, Model m) {
            return first(sheet, m) == NONE;
        }

        static int first(Object sheet, Model m) {
            for (int i = 0; i < size(sheet); i++) {
                m.aDay(NONE);
                if (m.filled() != at(sheet, i)) {
                    return i;
                }
            }
            return NONE;
        }

        int tells(int sheet, int one, int what) {
            if (!in(sheet, 0, 3) || !one(one) || !in(what, 0, 6)) {
                return BAD;
            }
            Object row = sheets[sheet];
            if (row == null) {
                return -11;
            }
            if (size(row) > 20) {
                return BAD;
            }
            if (what == 0) {
                return first(row, thought());
            }
            int[] choices = {0, 6, 10, 4, 100, 100, texts.size()};
            List<Integer> good = new ArrayList<>();
            for (int v = 0; v < choices[what]; v++) {
                Model m = thought();
                Looker p = m.people.get(one);
                switch (what) {
                    case 1 -> {
                        Looker q = make(v, p.number, p.at);
                        q.looked = p.looked;
                        m.people.set(one, q);
                    }
                    case 2 -> p.number = v;
                    case 3 -> p.at = v;
                    case 6 -> m.rule = v;
                    default -> p.looked = v;
                }
                if (fits(row, m)) {
                    good.add(v);
                }
            }
            if (what == 4) {
                return good.size();
            }
            if (what == 5) {
                return good.isEmpty() ? NONE : good.get(0);
            }
            return good.stream().mapToInt(v -> 1 << v).sum();
        }

        int film(int sheet, int n) {
            if (!in(sheet, 0, 3) || !in(n, 0, 20)) {
                return BAD;
            }
            byte[] row = new byte[n];
            for (int i = 0; i < n; i++) {
                row[i] = (byte) thought().days(i + 1, NONE).filled();
            }
            sheets[sheet] = row;
            return n;
        }

        int drawn(int seed, int n) {
            if (!in(n, 0, 40)) {
                return BAD;
            }
            Model m = thought();
            int z = seed;
            for (int c = 0; c < 64; c++) {
                z = z * 1103515245 + 12345;
                m.wants[c] = (z >>> 9) % 4;
            }
            return m.days(n, NONE).filled();
        }

        long chance(int seed, int m, int k, int part) {
            if (!in(m, 1, 20) || !in(k, 0, 64) || !in(part, 0, 1)) {
                return NO;
            }
            int good = 0;
            for (int i = 0; i < m; i++) {
                good += drawn(seed + i, 12) >= k ? 1 : 0;
            }
            return lowest(good, m, part);
        }

        int image() {
            image = thought();
            return people.size();
        }

        int back() {
            if (image == null) {
                return STATE;
            }
            Model m = image.thought();
            wants = m.wants;
            full = m.full;
            day = m.day;
            box = m.box;
            people = m.people;
            rule = m.rule;
            return people.size();
        }

        int count(int what) {
            return in(what, 0, 5)
                    ? new int[] {people.size(), filled(), day, texts.size(), tape.length(), rule}[what] : BAD;
        }

        int sheet(int sheet, int sort, int n) {
            if (!in(sheet, 0, 3) || !in(sort, -1, 2)) {
                return BAD;
            }
            if (sort >= 0 && n > 40) {
                return BAD;
            }
            try {
                sheets[sheet] = sort < 0 ? null : sort == 0 ? new byte[n] : sort == 1 ? new short[n] : new int[n];
                return 1;
            } catch (NegativeArraySizeException e) {
                return -14;
            }
        }

        int cell(int sheet, int i, int v) {
            if (!in(sheet, 0, 3)) {
                return BAD;
            }
            Object row = sheets[sheet];
            if (row == null) {
                return -11;
            }
            try {
                if (row instanceof byte[] b) {
                    b[i] = (byte) v;
                } else if (row instanceof short[] s) {
                    s[i] = (short) v;
                } else {
                    ((int[]) row)[i] = v;
                }
                return 1;
            } catch (ArrayIndexOutOfBoundsException e) {
                return -12;
            }
        }

        int copy(int sheet, int i, int other, int j, int n) {
            if (!in(sheet, 0, 3) || !in(other, 0, 3)) {
                return BAD;
            }
            try {
                System.arraycopy(sheets[sheet], i, sheets[other], j, n);
                return n;
            } catch (NullPointerException e) {
                return -11;
            } catch (ArrayStoreException e) {
                return -13;
            } catch (IndexOutOfBoundsException e) {
                return -12;
            }
        }

        int exarchate(int sheet, int sort, int from, int n) {
            if (!in(sheet, 0, 3) || !in(sort, 0, 2) || !in(n, 0, 5)) {
                return BAD;
            }
            Object row = sheets[sheet];
            try {
                Object cast = sort == 0 ? (byte[]) row : sort == 1 ? (short[]) row : (Object) (int[]) row;
                int came = 0;
                size(cast);
                for (int i = 0; i < n; i++) {
                    int p = from + 3 * i;
                    came += person(at(cast, p), at(cast, p + 1), at(cast, p + 2)) >= 0 ? 1 : 0;
                }
                return came;
            } catch (ClassCastException e) {
                return -13;
            } catch (NullPointerException e) {
                return -11;
            } catch (ArrayIndexOutOfBoundsException e) {
                return -12;
            }
        }

        int taken(int one, int k) {
            if (!in(k, 0, 5)) {
                return BAD;
            }
            if (!one(one)) {
                return -11;
            }
            return KINDS[k].isInstance(people.get(one)) ? people.get(one).number : -13;
        }
    }

    private final Random dice;
    private final MosaicOfSights x = new MosaicOfSights();
    private final Model m = new Model();
    private final int run;
    private int calls = 0;
    private static int wrong = 0;
    private static long answers = 0;
    private static int texts = 0;
    private static int faults = 0;

    private ModelTest(int run) {
        this.run = run;
        this.dice = new Random(run);
    }

    private void due(String call, long got, long want) {
        calls++;
        answers++;
        if (got != want && wrong++ < 20) {
            System.out.println("run " + run + ", call " + calls + ": " + call + " answered " + got + ", due is " + want);
        }
    }

    /** Mostly within least .. most, sometimes just outside, seldom far outside. */
    private int about(int least, int most) {
        int d = dice.nextInt(60);
        if (d == 0) {
            return least - 1;
        }
        if (d == 1) {
            return most + 1;
        }
        if (d == 2) {
            int[] far = {Integer.MIN_VALUE, Integer.MAX_VALUE, -1, Integer.MAX_VALUE - 2, 1 << 30, -1000};
            return far[dice.nextInt(far.length)];
        }
        return least + dice.nextInt(most - least + 1);
    }

    private int someone() {
        return about(0, Math.max(0, m.people.size() - 1));
    }

    private String expr(int depth) {
        String[] names = {"looked", "colour", "number", "day", "filled", "box"};
        switch (dice.nextInt(depth <= 0 ? 2 : 10)) {
            case 0: return names[dice.nextInt(6)];
            case 1: return "" + dice.nextInt(dice.nextInt(9) == 0 ? 12000 : 12);
            case 2: return "(" + expr(depth - 1) + ")";
            case 3: return "-" + expr(depth - 1);
            case 4: return "not " + expr(depth - 1);
            case 5: return expr(depth - 1) + " or " + expr(depth - 1);
            case 6: return expr(depth - 1) + " and " + expr(depth - 1);
            case 7: return expr(depth - 1) + "<=".charAt(dice.nextInt(2)) + expr(depth - 1);
            default: return expr(depth - 1) + "+-*".charAt(dice.nextInt(3)) + expr(depth - 1);
        }
    }

    private String drawnText() {
        String s = "needs " + (dice.nextInt(3) > 0 ? dice.nextInt(5) + "" : expr(3)) + ";sees " + expr(3)
                + ";\nturns " + expr(dice.nextInt(4)) + ";";
        if (dice.nextInt(6) == 0 && s.length() > 2) {
            int at = dice.nextInt(s.length());
            String odd = " \n()-+*;<=x1A?\t";
            char c = odd.charAt(dice.nextInt(odd.length()));
            s = s.substring(0, at) + c + s.substring(at + dice.nextInt(2));
        }
        if (dice.nextInt(20) == 0) {
            s = s.substring(0, dice.nextInt(s.length()));
        }
        return s;
    }

    private void write() {
        String s = drawnText();
        if (m.texts.size() < 6 && s.length() + calls < 400) {
            for (int i = 0; i < s.length(); i++) {
                due("feed", x.feed(s.charAt(i)), m.feed(s.charAt(i)));
            }
            int want = m.text();
            due("text '" + s + "'", x.text(), want);
            texts += want > 0 ? 1 : 0;
            faults += want < 0 ? 1 : 0;
        }
    }

    private void change() {
        switch (dice.nextInt(8)) {
            case 0: {
                int k = about(0, 5);
                int n = about(0, 9);
                int c = about(0, 3);
                due("person(" + k + "," + n + "," + c + ")", x.person(k, n, c), m.person(k, n, c));
                break;
            }
            case 1: {
                int t = about(0, m.texts.size() - 1);
                due("force(" + t + ")", x.force(t), m.force(t));
                break;
            }
            case 2:
                if (dice.nextInt(4) == 0) {
                    due("image()", x.image(), m.image());
                } else if (dice.nextInt(3) == 0) {
                    due("back()", x.back(), m.back());
                }
                break;
            case 3:
            case 4:
                due("day()", x.day(), m.day());
                break;
            default: {
                int what = about(0, 7);
                int[] most = {999, 3, 1, 99, 9, 3, 99, 99};
                int of = what == 1 || what == 2 ? about(0, 63) : what == 3 ? about(0, 3) : someone();
                int v = what >= 0 && what < 8 ? about(0, most[what]) : 0;
                due("set(" + what + "," + of + "," + v + ")", x.set(what, of, v), m.set(what, of, v));
            }
        }
    }

    private void host() {
        int s = about(0, 3);
        int t = dice.nextInt(3) == 0 ? s : about(0, 3);
        int a = about(0, 12);
        int b = about(0, 12);
        int n = about(0, 8);
        int sort = about(0, 2);
        switch (dice.nextInt(7)) {
            case 0:
                sort = about(-1, 2);
                n = about(0, 40);
                due("sheet(" + s + "," + sort + "," + n + ")", x.sheet(s, sort, n), m.sheet(s, sort, n));
                break;
            case 1:
                due("copy(" + s + "," + a + "," + t + "," + b + "," + n + ")", x.copy(s, a, t, b, n),
                        m.copy(s, a, t, b, n));
                break;
            case 2:
                n = about(0, 5);
                due("exarchate(" + s + "," + sort + "," + a + "," + n + ")", x.exarchate(s, sort, a, n),
                        m.exarchate(s, sort, a, n));
                break;
            case 3:
                n = about(0, 20);
                due("film(" + s + "," + n + ")", x.film(s, n), m.film(s, n));
                break;
            default: {
                int v = dice.nextInt(4) == 0 ? dice.nextInt() : about(0, 5);
                due("cell(" + s + "," + a + "," + v + ")", x.cell(s, a, v), m.cell(s, a, v));
            }
        }
    }

    private void ask() {
        int one = someone();
        int n = about(0, 40);
        int what = about(0, 4);
        switch (dice.nextInt(15)) {
            case 0: {
                int w = about(0, 11);
                int of = dice.nextInt(3) == 0 ? about(0, 63) : one;
                due("told(" + of + "," + w + ")", x.told(of, w), m.told(of, w));
                break;
            }
            case 1:
                due("picture(" + what + ")", x.picture(what), m.picture(what));
                break;
            case 2:
                due("run(" + one + "," + n + "," + what + ")", x.run(one, n, what), m.run(one, n, what));
                break;
            case 3:
                due("later(" + n + ")", x.later(n), m.later(n));
                break;
            case 4:
                due("ends()", x.ends(), m.ends());
                break;
            case 5:
                what = about(0, 1);
                due("atWhat(" + one + "," + n + "," + what + ")", x.atWhat(one, n, what), m.atWhat(one, n, what));
                break;
            case 6:
                if (dice.nextInt(8) == 0) {
                    n = about(1, 20);
                    what = about(0, 1);
                    due("want(" + n + "," + what + ")", x.want(n, what), m.want(n, what));
                }
                break;
            case 7:
                due("idle(" + n + ")", x.idle(n), m.idle(n));
                break;
            case 8:
                what = about(0, 3);
                due("gap(" + what + ")", x.gap(what), m.gap(what));
                break;
            case 9:
                what = about(0, 1);
                due("share(" + what + ")", x.share(what), m.share(what));
                break;
            case 10:
                due("drawn(" + n + ")", x.drawn(run * 77 + n, n), m.drawn(run * 77 + n, n));
                break;
            case 11: {
                int seed = dice.nextInt();
                int many = about(1, 20);
                int k = dice.nextBoolean() ? about(0, 64) : m.drawn(seed, 12);
                what = about(0, 1);
                due("chance(" + seed + "," + many + "," + k + "," + what + ")", x.chance(seed, many, k, what),
                        m.chance(seed, many, k, what));
                break;
            }
            case 12:
                what = about(0, 5);
                due("count(" + what + ")", x.count(what), m.count(what));
                break;
            case 13:
                what = about(0, 5);
                due("taken(" + one + "," + what + ")", x.taken(one, what), m.taken(one, what));
                break;
            default:
                tellBack(one);
        }
    }

    private void tellBack(int one) {
        int s = about(0, 3);
        if (dice.nextInt(3) > 0) {
            int n = about(0, 20);
            due("film(" + s + "," + n + ")", x.film(s, n), m.film(s, n));
        }
        if (dice.nextInt(3) == 0) {
            change();
        }
        for (int what = 0; what <= 6; what++) {
            due("tells(" + s + "," + one + "," + what + ")", x.tells(s, one, what), m.tells(s, one, what));
        }
        int odd = about(0, 6);
        due("tells(" + s + "," + one + "," + odd + ")", x.tells(s, one, odd), m.tells(s, one, odd));
    }

    private void all() {
        int people = dice.nextInt(6);
        for (int i = 0; i < people; i++) {
            change();
        }
        if (dice.nextInt(4) > 0) {
            write();
        }
        while (calls < 480) {
            int d = dice.nextInt(20);
            if (d == 0) {
                write();
            } else if (d < 7) {
                change();
            } else if (d < 11) {
                host();
            } else {
                ask();
            }
        }
    }

    public static void main(String[] args) {
        int runs = args.length > 0 ? Integer.parseInt(args[0]) : 400;
        for (int run = 0; run < runs; run++) {
            new ModelTest(run).all();
        }
        System.out.println(answers + " answers, " + texts + " texts, " + faults + " faults; "
                + (wrong == 0 ? "all are as due" : wrong + " are not as due"));
        if (wrong != 0) {
            System.exit(1);
        }
    }
}
