import java.io.IOException;
import java.lang.reflect.Method;
import java.lang.reflect.Modifier;
import java.net.URL;
import java.net.URLClassLoader;
import java.nio.file.Files;
import java.nio.file.Path;
import java.util.ArrayList;
import java.util.Comparator;
import java.util.List;
import java.util.regex.Matcher;
import java.util.regex.Pattern;
import java.util.stream.Stream;
import javax.tools.JavaCompiler;
import javax.tools.ToolProvider;

/** README.md's program, compiled and run: its calls answer what stands behind them, and the whole class is shown. */
final class ReadmeTest {
    private static final Tally TALLY = new Tally("ReadmeTest");
    private static final Pattern BLOCK = Pattern.compile("(?s)```java\n(.*?)```");
    // A call, two blanks, its answer, and perhaps a colon with what it means.
    private static final Pattern CALL = Pattern.compile("(\\S.*\\));  // ([^\\s:]+)(: .*)?");
    private static final List<String> MADE = new ArrayList<>();
    private static final List<String> FUNCTIONS = new ArrayList<>();
    private static final List<String> CALLS = new ArrayList<>();
    private static final List<String> DUE = new ArrayList<>();

    private ReadmeTest() {
    }

    public static void main(String[] args) throws IOException, ReflectiveOperationException {
        Path file = Path.of(System.getProperty("readme.file", "README.md")).toAbsolutePath();
        String text = Files.readString(file);
        readBlocks(text);
        List<?> told = play();
        TALLY.due("number of answers", told.size(), DUE.size());
        for (int i = 0; i < DUE.size() && i < told.size(); i++) {
            boolean isDue = told.get(i).equals(DUE.get(i));
            TALLY.due(CALLS.get(i) + " says " + DUE.get(i) + ", and the class " + told.get(i), isDue, true);
        }
        showsAll();
        namesTests(text, file.resolveSibling("src/test/java"));
        TALLY.end();
    }

    private static void readBlocks(String text) {
        Matcher block = BLOCK.matcher(text);
        while (block.find()) {
            if (block.group(1).startsWith("static ")) {
                FUNCTIONS.add(block.group(1));
            } else {
                block.group(1).lines().forEach(ReadmeTest::readLine);
            }
        }
    }

    private static void readLine(String line) {
        Matcher call = CALL.matcher(line);
        if (call.matches()) {
            CALLS.add(call.group(1));
            DUE.add(call.group(2));
        } else if (line.equals("WholeFields x = new WholeFields();")) {
            MADE.add(line);
        } else {
            TALLY.due("a line without an answer, " + line, false, true);
        }
    }

    private static String program() {
        StringBuilder text = new StringBuilder("public final class Readme {\n");
        FUNCTIONS.forEach(text::append);
        text.append("public static java.util.List<String> play() {\n");
        text.append("java.util.List<String> told = new java.util.ArrayList<>();\n");
        MADE.forEach(text::append);
        for (String call : CALLS) {
            text.append("\ntry { told.add(String.valueOf(").append(call).append(")); }");
            text.append(" catch (RuntimeException e) { told.add(e.getClass().getSimpleName()); }");
        }
        return text.append("\nreturn told;\n}\n}\n").toString();
    }

    private static List<?> play() throws IOException, ReflectiveOperationException {
        Path place = Files.createTempDirectory("readme");
        try {
            if (!isCompiled(Files.writeString(place.resolve("Readme.java"), program()), place)) {
                return List.of();
            }
            URL[] places = {place.toUri().toURL()};
            try (URLClassLoader loader = new URLClassLoader(places, ReadmeTest.class.getClassLoader())) {
                return (List<?>) loader.loadClass("Readme").getMethod("play").invoke(null);
            }
        } finally {
            remove(place);
        }
    }

    private static boolean isCompiled(Path source, Path place) {
        // A java without its javac has none.
        JavaCompiler javac = ToolProvider.getSystemJavaCompiler();
        String classes = System.getProperty("java.class.path");
        return TALLY.due("the page's program can be compiled", javac != null
                && javac.run(null, null, null, "-cp", classes, "-d", place.toString(), source.toString()) == 0, true);
    }

    private static void remove(Path place) throws IOException {
        try (Stream<Path> all = Files.walk(place)) {
            for (Path p : all.sorted(Comparator.reverseOrder()).toList()) {
                Files.delete(p);
            }
        }
    }

    private static void showsAll() {
        String calls = String.join("\n", CALLS) + String.join("\n", FUNCTIONS);
        for (Method m : WholeFields.class.getDeclaredMethods()) {
            if (Modifier.isPublic(m.getModifiers())) {
                TALLY.due(m.getName() + "() is shown", calls.contains("x." + m.getName() + "("), true);
            }
        }
        for (String trouble : new String[] {"0", "1", "2", "3", "4", "5", "6"}) {
            TALLY.due("trouble " + trouble + " is shown", isShown("x.trouble()", trouble), true);
        }
        for (String fault : new String[] {"0", "1", "3", "4", "5"}) {
            TALLY.due("fault " + fault + " is shown", isShown("x.fault()", fault), true);
        }
    }

    private static boolean isShown(String call, String answer) {
        for (int i = 0; i < CALLS.size(); i++) {
            if (CALLS.get(i).equals(call) && DUE.get(i).equals(answer)) {
                return true;
            }
        }
        return false;
    }

    private static void namesTests(String text, Path tests) throws IOException {
        try (Stream<Path> all = Files.list(tests)) {
            for (Path p : all.filter(f -> f.toString().endsWith("Test.java")).toList()) {
                String name = p.getFileName().toString().replace(".java", "");
                TALLY.due(name + " is named", text.contains("`" + name + "`"), true);
            }
        }
    }
}
