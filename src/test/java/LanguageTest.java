import java.io.IOException;
import java.lang.management.ManagementFactory;
import java.lang.reflect.Constructor;
import java.lang.reflect.Field;
import java.lang.reflect.Method;
import java.lang.reflect.Modifier;
import java.nio.file.Files;
import java.nio.file.Path;
import java.util.ArrayList;
import java.util.List;
import java.util.Set;
import java.util.TreeSet;
import java.util.regex.Matcher;
import java.util.regex.Pattern;

/** What of ../shared/LANGUAGE.md a program can look after: the face, forbidden words, sizes, and what calls make. */
public final class LanguageTest {
    private static final String[] FACE = {
        "int set(int, int, int)", "int person(int, int, int)", "int told(int, int)", "long picture(int)",
        "int feed(int)", "int text()", "int force(int)", "int day()", "int run(int, int, int)", "long later(int)",
        "int ends()", "int atWhat(int, int, int)", "int want(int, int)", "int idle(int)", "int gap(int)",
        "long share(int)", "int tells(int, int, int)", "int film(int, int)", "int drawn(int, int)",
        "long chance(int, int, int, int)", "int image()", "int back()", "int count(int)", "int sheet(int, int, int)",
        "int cell(int, int, int)", "int copy(int, int, int, int, int)", "int exarchate(int, int, int, int)",
        "int taken(int, int)"};
    private static final String[] CONSTANTS = {"int NONE", "int BAD", "int STATE", "int FULL", "long NO"};

    private static int wrong = 0;

    private static void say(boolean good, String what) {
        if (!good) {
            wrong++;
            System.out.println(what);
        }
    }

    public static void main(String[] args) throws IOException {
        face();
        String source = Files.readString(Path.of("src/main/java/MosaicOfSights.java"));
        words(bare(source));
        classes();
        methodLengths(source);
        callsMakeNothing();
        System.out.println(wrong == 0 ? "the language is kept" : wrong + " faults of language");
        if (wrong != 0) {
            System.exit(1);
        }
    }

    private static void face() {
        Class<?> c = MosaicOfSights.class;
        say(Modifier.isPublic(c.getModifiers()) && Modifier.isFinal(c.getModifiers()), "the class is public, final");
        Set<String> methods = new TreeSet<>();
        Set<String> publicNames = new TreeSet<>();
        for (Method m : c.getDeclaredMethods()) {
            if (!Modifier.isPrivate(m.getModifiers())) {
                StringBuilder s = new StringBuilder(m.getReturnType() + " " + m.getName() + "(");
                for (int i = 0; i < m.getParameterCount(); i++) {
                    s.append(i == 0 ? "" : ", ").append(m.getParameterTypes()[i]);
                }
                methods.add(s.append(")").toString());
                publicNames.add(m.getName());
                say(Modifier.isPublic(m.getModifiers()) && !Modifier.isStatic(m.getModifiers()), "not public: " + m);
            }
        }
        say(methods.equals(new TreeSet<>(List.of(FACE))), "the methods are " + methods);
        Set<String> fields = new TreeSet<>();
        for (Field f : c.getDeclaredFields()) {
            if (!Modifier.isPrivate(f.getModifiers())) {
                fields.add(f.getType() + " " + f.getName());
            }
            boolean isStatic = Modifier.isStatic(f.getModifiers());
            say(!isStatic || Modifier.isFinal(f.getModifiers()), "static, but not final: " + f);
        }
        say(fields.equals(new TreeSet<>(List.of(CONSTANTS))), "the constants are " + fields);
        Constructor<?>[] made = c.getDeclaredConstructors();
        say(made.length == 1 && made[0].getParameterCount() == 0 && Modifier.isPublic(made[0].getModifiers()),
                "one public constructor without parameters");
        for (Class<?> in : c.getDeclaredClasses()) {
            for (Method m : in.getDeclaredMethods()) {
                say(!publicNames.contains(m.getName()), "bears the name of a public method: " + m);
            }
        }
    }

    private static String bare(String source) {
        return source.replaceAll("(?s)/\\*.*?\\*/", "").replaceAll("//[^\n]*", "").replaceAll("\"[^\"\n]*\"", "\"\"");
    }

    private static void words(String bare) {
        String[] forbidden = {"\\bthrow\\b", "\\btry\\b", "\\bcatch\\b", "\\bsynchronized\\b", "\\bassert\\b",
            "\\bimport\\b", "\\bpackage\\b", "->", "::", "\\binterface\\s+@", "@", "\\bthrows\\b", "\\bhashCode\\b",
            "\\btoString\\b", "Exact\\b", "\\bSystem\\.(?!arraycopy)", "\\bRandom\\b", "\\bThread\\b", "\\bvar\\b",
            "\\bstatic\\s*\\{", "\"\"\\s*\\+", "\\+\\s*\"\"", "\\bObject\\b", "while\\s*\\(true"};
        for (String f : forbidden) {
            Matcher m = Pattern.compile(f).matcher(bare);
            say(!m.find(), "forbidden: " + f);
        }
        Matcher called = Pattern.compile("\\b([A-Z][A-Za-z]*)\\.([a-z][A-Za-z]*)\\(").matcher(bare);
        Set<String> known = Set.of("Math.min", "Math.max", "Math.floorMod", "Long.bitCount", "System.arraycopy");
        while (called.find()) {
            String name = called.group(1) + "." + called.group(2);
            say(known.contains(name), "a call of the library: " + name);
        }
        Matcher made = Pattern.compile("\\bnew\\s+([A-Za-z]+)").matcher(bare);
        Set<String> own = Set.of("World", "Rules", "Reader", "Sheet", "Text", "int", "long");
        while (made.find()) {
            say(own.contains(made.group(1)), "makes: " + made.group(1));
        }
    }

    private static void classes() {
        List<Class<?>> all = new ArrayList<>(List.of(MosaicOfSights.class.getDeclaredClasses()));
        say(all.size() + 1 <= 12, "too many classes");
        all.add(MosaicOfSights.class);
        for (Class<?> c : all) {
            say(c == MosaicOfSights.class || Modifier.isStatic(c.getModifiers()), "not static: " + c);
            int fields = 0;
            for (Field f : c.getDeclaredFields()) {
                fields += Modifier.isStatic(f.getModifiers()) ? 0 : 1;
            }
            say(fields <= 20, "too many fields: " + c);
            for (Method m : c.getDeclaredMethods()) {
                say(m.getParameterCount() <= 7, "too many parameters: " + m);
            }
        }
    }

    private static void methodLengths(String source) {
        int start = -1;
        String end = "";
        String[] lines = source.split("\n");
        for (int i = 0; i < lines.length; i++) {
            say(lines[i].length() <= 120, "line " + (i + 1) + " is long");
            Matcher m = Pattern.compile("^( {4}| {8})[a-zA-Z][^=;]*\\) \\{$").matcher(lines[i]);
            if (start < 0 && m.find() && !lines[i].contains(" class ")) {
                start = i;
                end = m.group(1) + "}";
            } else if (start >= 0 && lines[i].equals(end)) {
                say(i - start + 1 <= 60, "long method from line " + (start + 1));
                start = -1;
            }
        }
    }

    private static long all(MosaicOfSights x, int i) {
        long sum = x.set(i % 8, i % 64, i % 4) + x.person(i % 6, i % 10, i % 4) + x.told(i % 5, i % 12);
        sum += x.picture(i % 5) + x.run(0, i % 41, i % 5) + x.later(i % 41) + x.ends() + x.atWhat(0, i % 41, i % 2);
        String text = "needs 1+box*(looked<2);sees not day or filled;turns -colour;";
        for (int k = 0; k < text.length(); k++) {
            sum += x.feed(text.charAt(k));
        }
        sum += x.text() + x.force(i % 6) + x.day() + x.want(1 + i % 20, i % 2) + x.idle(i % 41) + x.gap(i % 4);
        sum += x.share(i % 2) + x.film(i % 4, i % 21) + x.tells(i % 4, 0, i % 7) + x.drawn(i, i % 41);
        sum += x.chance(i, 1 + i % 20, i % 65, 0) + x.image() + x.back() + x.count(i % 6);
        sum += x.sheet(i % 4, i % 3, 40) + x.cell(i % 4, i % 40, i) + x.copy(i % 4, 0, i % 4, 3, 30);
        return sum + x.exarchate(i % 4, i % 3, i % 20, 5) + x.taken(0, i % 6);
    }

    /** All that an object holds is made with it, so that no run of calls can fill the room. */
    private static void callsMakeNothing() {
        com.sun.management.ThreadMXBean beans = (com.sun.management.ThreadMXBean) ManagementFactory.getThreadMXBean();
        long id = Thread.currentThread().getId();
        long sum = 0;
        MosaicOfSights warm = new MosaicOfSights();
        for (int i = 0; i < 50; i++) {
            sum += all(warm, i);
        }
        beans.getThreadAllocatedBytes(id);
        MosaicOfSights x = new MosaicOfSights();
        long before = beans.getThreadAllocatedBytes(id);
        for (int i = 0; i < 300; i++) {
            sum += all(x, i);
        }
        long made = beans.getThreadAllocatedBytes(id) - before;
        say(made < 2000, "the calls made " + made + " bytes (" + sum + ")");
        before = beans.getThreadAllocatedBytes(id);
        MosaicOfSights y = new MosaicOfSights();
        made = beans.getThreadAllocatedBytes(id) - before;
        say(made < 16000 && y.count(0) == 0, "an object takes " + made + " bytes");
    }
}
