import java.io.IOException;
import java.lang.reflect.Method;
import java.nio.file.Files;
import java.nio.file.Path;
import java.util.ArrayList;
import java.util.List;
import java.util.Map;
import java.util.TreeMap;
import java.util.regex.Matcher;
import java.util.regex.Pattern;

/** Each Sentence of the tests stands in the document, and no word of the Terms or of a promise is without a test. */
final class SentencesTest {
    private static final Tally TALLY = new Tally("SentencesTest");
    private static final List<Class<? extends Checks>> TESTS = List.of(BookBoundsTest.class, GroundBoundsTest.class,
            DrawingBoundsTest.class, FoundBoundsTest.class, BorderBoundsTest.class, AnswerBoundsTest.class);
    // A part's words, and which of its signs some test's sentence covers.
    private static final Map<String, String> PARTS = new TreeMap<>();
    private static final Map<String, boolean[]> COVERED = new TreeMap<>();

    private SentencesTest() {
    }

    public static void main(String[] args) throws IOException {
        String doc = Files.readString(Path.of(System.getProperty("doc.file", "../shared/DOC.md")));
        readParts(doc.replace("```text", "").replace("```", ""));
        TALLY.due("number of promises", PARTS.keySet().stream().filter(k -> k.matches("\\d+")).count(), 34);
        for (Class<? extends Checks> tests : TESTS) {
            for (Method m : tests.getDeclaredMethods()) {
                Sentence s = m.getAnnotation(Sentence.class);
                if (s != null) {
                    cover(m.getName(), s);
                }
            }
        }
        for (String part : PARTS.keySet()) {
            if (!part.equals("What it is")) {
                TALLY.due(part + " has words that no test tells: " + bare(part), bare(part).size(), 0);
            }
        }
        TALLY.end();
    }

    private static void readParts(String doc) {
        String terms = between(doc, "## Terms", "## Promise 1:");
        String[] numbers = {"I", "II", "III", "IV", "V", "VI"};
        for (int i = 0; i < numbers.length; i++) {
            String end = i < 5 ? "\n" + numbers[i + 1] + ". " : "The constants:";
            add(numbers[i], between(terms, "\n" + numbers[i] + ". ", end));
        }
        add("constants", between(terms, "The constants:", "\n"));
        add("What it is", between(doc, "## What it is", "## The public face"));
        Matcher promise = Pattern.compile("## Promise (\\d+): .*\\s+`.*?`: (.*)").matcher(doc);
        while (promise.find()) {
            add(promise.group(1), promise.group(2));
        }
    }

    private static String between(String text, String from, String to) {
        int start = text.indexOf(from) + from.length();
        return text.substring(start, text.indexOf(to, start));
    }

    private static void add(String part, String text) {
        String plain = text.trim().replaceAll("\\s+", " ");
        PARTS.put(part, plain);
        COVERED.put(part, new boolean[plain.length()]);
    }

    private static void cover(String method, Sentence s) {
        String text = PARTS.getOrDefault(s.of(), "");
        boolean found = false;
        for (int at = text.indexOf(s.says()); at >= 0; at = text.indexOf(s.says(), at + 1)) {
            found = true;
            for (int i = at; i < at + s.says().length(); i++) {
                COVERED.get(s.of())[i] = true;
            }
        }
        TALLY.due(method + ": " + s.of() + " says \"" + s.says() + "\"", found, true);
    }

    private static List<String> bare(String part) {
        List<String> words = new ArrayList<>();
        Matcher word = Pattern.compile("[A-Za-z0-9]+").matcher(PARTS.get(part));
        while (word.find()) {
            if (!COVERED.get(part)[word.start()]) {
                words.add(word.group());
            }
        }
        return words;
    }
}
