import java.io.IOException;
import java.lang.reflect.Method;
import java.net.URL;
import java.net.URLClassLoader;
import java.nio.file.Files;
import java.nio.file.Path;
import java.util.Comparator;
import java.util.List;
import java.util.regex.Matcher;
import java.util.regex.Pattern;
import java.util.stream.Stream;
import javax.tools.JavaCompiler;
import javax.tools.ToolProvider;

/** The example of README.md is made a program, whose calls must answer what stands behind them. */
public final class ReadmeTest {
    private static final Pattern ASKED = Pattern.compile("\\s*(?:int (\\w+) = )?(x\\.\\w+\\(.*\\));\\s*// (-?\\d+).*");

    private static int wrong = 0;
    private static int asked = 0;

    /** Called by the program that the example is made. */
    public static void due(String call, long got, long want) {
        asked++;
        if (got != want) {
            wrong++;
            System.out.println("README.md: " + call + " answered " + got + ", there stands " + want);
        }
    }

    public static void main(String[] args) throws Exception {
        Path place = Files.createTempDirectory("readme");
        try {
            run(place, program(example()));
        } finally {
            remove(place);
        }
        if (asked < 20) {
            wrong++;
            System.out.println("the example has only " + asked + " calls that are told");
        }
        System.out.println(wrong == 0 ? asked + " answers are as README.md says" : wrong + " are not");
        if (wrong != 0) {
            System.exit(1);
        }
    }

    private static List<String> example() throws IOException {
        String readme = Files.readString(Path.of("README.md"));
        int start = readme.indexOf("```java\n");
        int end = readme.indexOf("```\n", start + 8);
        return List.of(readme.substring(start + 8, end).split("\n"));
    }

    private static String program(List<String> lines) {
        StringBuilder s = new StringBuilder("public class Example { public static void main(String[] a) {\n");
        for (String line : lines) {
            Matcher m = ASKED.matcher(line);
            if (!m.matches()) {
                s.append(line).append('\n');
                continue;
            }
            String call = m.group(2);
            if (m.group(1) != null) {
                s.append("int ").append(m.group(1)).append(" = ").append(call).append(";\n");
                call = m.group(1);
            }
            s.append("ReadmeTest.due(\"").append(m.group(2)).append("\", ").append(call).append(", ")
                    .append(m.group(3)).append(");\n");
        }
        return s.append("} }\n").toString();
    }

    private static void run(Path place, String program) throws Exception {
        Path source = place.resolve("Example.java");
        Files.writeString(source, program);
        JavaCompiler compiler = ToolProvider.getSystemJavaCompiler();
        int code = compiler.run(null, null, null, "-cp", System.getProperty("java.class.path"), "-d",
                place.toString(), source.toString());
        if (code != 0) {
            wrong++;
            System.out.println("the example of README.md does not compile");
            return;
        }
        try (URLClassLoader loader = new URLClassLoader(new URL[] {place.toUri().toURL()})) {
            Method main = loader.loadClass("Example").getMethod("main", String[].class);
            main.invoke(null, (Object) new String[0]);
        }
    }

    private static void remove(Path place) throws IOException {
        try (Stream<Path> all = Files.walk(place)) {
            for (Path p : all.sorted(Comparator.reverseOrder()).toList()) {
                Files.delete(p);
            }
        }
    }
}
