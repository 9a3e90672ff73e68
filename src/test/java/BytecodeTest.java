import java.io.File;
import java.io.PrintWriter;
import java.io.StringWriter;
import java.net.URISyntaxException;
import java.util.ArrayDeque;
import java.util.ArrayList;
import java.util.Deque;
import java.util.HashMap;
import java.util.List;
import java.util.Map;
import java.util.Set;
import java.util.TreeMap;
import java.util.TreeSet;
import java.util.regex.Matcher;
import java.util.regex.Pattern;
import java.util.spi.ToolProvider;

/**
 * What of ../shared/LANGUAGE.md is seen best in the compiled class: which of the library is called (rule 4), that
 * nothing is thrown or caught (6), which methods recur (8), how deep calls go (11).
 */
public final class BytecodeTest {
    private static final int DEEPEST = 8;
    private static final Set<String> LIBRARY = Set.of("java.lang.Object.<init>", "java.lang.Math.floorMod",
            "java.lang.Math.min", "java.lang.Math.max", "java.lang.Long.bitCount", "java.lang.String.length",
            "java.lang.String.charAt", "java.lang.System.arraycopy");
    private static final Set<String> RECURRING = Set.of("either", "both", "negated", "compared", "sum", "term",
            "single");

    private static int wrong = 0;
    /** What each method calls, of our own methods; those of the library apart. */
    private static final Map<String, Set<String>> calls = new TreeMap<>();
    private static final Set<String> library = new TreeSet<>();

    private static void say(boolean good, String what) {
        if (!good) {
            wrong++;
            System.out.println(what);
        }
    }

    public static void main(String[] args) throws URISyntaxException {
        String listing = listing();
        nothingThrown(listing);
        readCalls(listing);
        say(calls.size() > 60, "too few methods were found: " + calls.keySet());
        say(LIBRARY.containsAll(library), "of the library are called " + library);
        Map<String, Set<String>> reached = new HashMap<>();
        for (String method : calls.keySet()) {
            reached.put(method, reachedFrom(method));
        }
        recurring(reached);
        Map<String, Integer> known = new HashMap<>();
        int deepest = 0;
        for (String method : calls.keySet()) {
            int deep = depth(method, reached, known);
            say(deep <= DEEPEST, method + " goes " + deep + " deep");
            deepest = Math.max(deepest, deep);
        }
        System.out.println(calls.size() + " methods, calls go " + deepest + " deep; "
                + (wrong == 0 ? "the language is kept" : wrong + " faults of language"));
        if (wrong != 0) {
            System.exit(1);
        }
    }

    private static String listing() throws URISyntaxException {
        File place = new File(MosaicOfSights.class.getProtectionDomain().getCodeSource().getLocation().toURI());
        List<String> args = new ArrayList<>(List.of("-p", "-c"));
        for (String name : place.list()) {
            if (name.matches("MosaicOfSights(\\$\\w+)?\\.class")) {
                args.add(new File(place, name).getPath());
            }
        }
        StringWriter told = new StringWriter();
        PrintWriter out = new PrintWriter(told);
        int code = ToolProvider.findFirst("javap").orElseThrow().run(out, out, args.toArray(new String[0]));
        say(code == 0, "javap ended with " + code);
        out.flush();
        return told.toString();
    }

    private static void nothingThrown(String listing) {
        for (String word : List.of("athrow", "Exception table", "invokedynamic", "monitorenter", "checkcast")) {
            say(!listing.contains(word), "the compiled class has " + word);
        }
    }

    private static void readCalls(String listing) {
        Pattern classLine = Pattern.compile("^[a-z ]*class ([\\w$]+) .*");
        Pattern methodLine = Pattern.compile("^  [\\w$\\[\\]. ]*?([\\w$]+)\\(.*\\);$");
        Pattern callLine = Pattern.compile(".*// Method ([^:]+):.*");
        String in = "";
        String method = "";
        for (String line : listing.split("\n")) {
            Matcher m = classLine.matcher(line);
            if (m.matches()) {
                in = m.group(1);
                continue;
            }
            m = methodLine.matcher(line);
            if (m.matches()) {
                method = in + "." + (m.group(1).equals(in) ? "<init>" : m.group(1));
                calls.computeIfAbsent(method, k -> new TreeSet<>());
                continue;
            }
            m = callLine.matcher(line);
            if (m.matches()) {
                String called = m.group(1).replace("\"", "").replace('/', '.');
                called = called.contains(".") ? called : in + "." + called;
                (called.startsWith("Mosaic") ? calls.get(method) : library).add(called);
            }
        }
    }

    private static Set<String> reachedFrom(String method) {
        Set<String> seen = new TreeSet<>();
        Deque<String> open = new ArrayDeque<>(calls.get(method));
        while (!open.isEmpty()) {
            String next = open.pop();
            say(calls.containsKey(next), "not found: " + next);
            if (seen.add(next)) {
                open.addAll(calls.getOrDefault(next, Set.of()));
            }
        }
        return seen;
    }

    /** Only the reading of a TEXT recurs, where the depth is carried as an argument. */
    private static void recurring(Map<String, Set<String>> reached) {
        Set<String> found = new TreeSet<>();
        for (String method : reached.keySet()) {
            if (reached.get(method).contains(method)) {
                found.add(method.substring(method.indexOf('.') + 1));
            }
        }
        say(found.equals(new TreeSet<>(RECURRING)), "these recur: " + found);
    }

    /** How many calls stand open at most; those that call one another count as one. */
    private static int depth(String method, Map<String, Set<String>> reached, Map<String, Integer> known) {
        if (known.containsKey(method)) {
            return known.get(method);
        }
        Set<String> group = new TreeSet<>(Set.of(method));
        for (String other : reached.get(method)) {
            if (reached.get(other).contains(method)) {
                group.add(other);
            }
        }
        int below = 0;
        for (String member : group) {
            for (String called : calls.get(member)) {
                if (!group.contains(called)) {
                    below = Math.max(below, depth(called, reached, known));
                }
            }
        }
        known.put(method, below + 1);
        return below + 1;
    }
}
