import java.io.IOException;
import java.lang.reflect.Constructor;
import java.lang.reflect.Field;
import java.lang.reflect.Method;
import java.lang.reflect.Modifier;
import java.nio.file.Files;
import java.nio.file.Path;
import java.util.Arrays;
import java.util.HashSet;
import java.util.List;
import java.util.Set;
import java.util.TreeSet;
import java.util.regex.Matcher;
import java.util.regex.Pattern;

/** The document's public face and nothing else, and those rules of LANGUAGE.md that a glance at the text can hold. */
final class FaceTest {
    private static final Tally TALLY = new Tally("FaceTest");
    private static final List<String> METHODS = List.of(
            "int feed(int, int, int, int, int)", "int book(int)", "int fault()", "int where()",
            "int ground(int, int)", "boolean cell(int, int, int, boolean)", "boolean door(int, int)",
            "boolean keep(int, int)", "boolean had(int, int)", "boolean set(int, int)", "int value(int, int)",
            "boolean draw(int, int)", "int whose(int)", "int sum(int)", "int total(int)", "int bars()",
            "int barred()", "int envies(int, int)", "int votes(int)", "int grow()", "int better(int)", "int can()",
            "int best(boolean)", "int stakes(int)", "int stake(int, int)", "int within(int)",
            "int split(int, int, int)", "int part()", "int corner(int)", "int clear()", "int ditches()",
            "int count(int)", "int trouble()");

    private FaceTest() {
    }

    public static void main(String[] args) throws IOException {
        face();
        text(Files.readString(Path.of(System.getProperty("class.file", "src/main/java/WholeFields.java"))));
        TALLY.end();
    }

    private static void must(String what, boolean holds) {
        TALLY.due(what, holds, true);
    }

    private static void face() {
        Class<WholeFields> face = WholeFields.class;
        must("the class is public and final", face.getModifiers() == (Modifier.PUBLIC | Modifier.FINAL));
        Set<String> open = new TreeSet<>();
        Set<String> names = new HashSet<>();
        for (Method m : face.getDeclaredMethods()) {
            String types = String.join(", ", Arrays.stream(m.getParameterTypes()).map(Class::getName).toList());
            if (!Modifier.isPrivate(m.getModifiers())) {
                open.add(m.getReturnType().getName() + " " + m.getName() + "(" + types + ")");
                names.add(m.getName());
                must(m + " is public alone", m.getModifiers() == Modifier.PUBLIC);
            }
        }
        must("the methods are the document's: " + open, open.equals(new TreeSet<>(METHODS)));
        for (Class<?> c : withInner(face)) {
            for (Method m : c.getDeclaredMethods()) {
                must(m + " bears no name of the face",
                        c == face && !Modifier.isPrivate(m.getModifiers()) || !names.contains(m.getName()));
                must(m + " takes seven at most", m.getParameterCount() <= 7);
            }
            must(c + " has few fields", Arrays.stream(c.getDeclaredFields())
                    .filter(f -> !Modifier.isStatic(f.getModifiers())).count() <= 20);
            must(c + " is static", c == face || Modifier.isStatic(c.getModifiers()));
        }
        must("few classes", withInner(face).size() <= 12);
        for (Field f : face.getDeclaredFields()) {
            must(f + " is private", f.getName().equals("NONE") || Modifier.isPrivate(f.getModifiers()));
            must(f + " is final if static",
                    !Modifier.isStatic(f.getModifiers()) || Modifier.isFinal(f.getModifiers()));
        }
        Constructor<?>[] makers = face.getDeclaredConstructors();
        must("one constructor", makers.length == 1 && makers[0].getModifiers() == Modifier.PUBLIC
                && makers[0].getParameterCount() == 0);
    }

    private static Set<Class<?>> withInner(Class<?> face) {
        Set<Class<?>> all = new HashSet<>(Arrays.asList(face.getDeclaredClasses()));
        all.add(face);
        return all;
    }

    private static void text(String whole) {
        String code = whole.replaceAll("(?s)/\\*.*?\\*/", " ").replaceAll("//[^\n]*", " ");
        for (String word : new String[] {"->", "::", "synchronized", "assert", "finally", "catch", "instanceof",
                "package", "Exact", "hashCode", "System.nanoTime", "Random", "Thread", "MIN_VALUE", "MAX_VALUE"}) {
            must("no " + word, !code.contains(word));
        }
        Matcher imports = Pattern.compile("import ([\\w.]+);").matcher(code);
        while (imports.find()) {
            must("import " + imports.group(1),
                    Set.of("java.util.Arrays", "java.util.NoSuchElementException").contains(imports.group(1)));
        }
        Matcher calls = Pattern.compile("\\b(Arrays|Math|Long|Integer|System)\\.(\\w+)").matcher(code);
        Set<String> allowed = Set.of("Arrays.fill", "Math.abs", "Math.max", "Math.min", "Long.bitCount",
                "Integer.bitCount", "System.arraycopy");
        while (calls.find()) {
            must("of the library, " + calls.group(), allowed.contains(calls.group()));
        }
        methodLengths(code);
    }

    private static void methodLengths(String code) {
        int start = 0;
        String[] lines = code.split("\n", -1);
        for (int i = 0; i < lines.length; i++) {
            if (lines[i].matches("( {4}| {8})\\S.*\\) (throws \\w+ )?\\{")) {
                start = i;
            }
            if (lines[i].matches("( {4}| {8})\\}")) {
                boolean isEnd = lines[i].startsWith("    }");
                must("the method at line " + (start + 1) + " is short", i - start <= 60 || isEnd);
            }
        }
    }
}
