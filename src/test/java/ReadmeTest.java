import java.io.IOException;
import java.lang.reflect.Method;
import java.lang.reflect.Modifier;
import java.nio.file.Files;
import java.nio.file.Path;
import java.util.Arrays;
import java.util.Set;
import java.util.TreeSet;
import java.util.regex.Matcher;
import java.util.regex.Pattern;
import java.util.stream.Stream;

/** What README.md says of the class and its tests, held against both. */
public final class ReadmeTest {

    private static final Due DUE = new Due();

    private static final Pattern CALL = Pattern.compile("heaps\\.(\\w+)\\((.*)\\);\\s+// (-?\\w+)(: .*)?");
    private static final Pattern SIGNATURE = Pattern.compile("`(\\w+)\\(([a-z, ]*)\\)`");

    public static void main(String[] args) throws Exception {
        String text = Files.readString(Path.of("README.md"));
        example(between(text, "```java\n", "```"));
        calls(between(text, "\n| call |", "\n\n"));
        tests(between(text, "\n| test |", "\n\n"));
        DUE.end();
    }

    private static String between(String text, String beginning, String end) {
        int from = text.indexOf(beginning);
        int to = from < 0 ? -1 : text.indexOf(end, from + beginning.length());
        DUE.yes("README.md has a part from " + beginning.trim() + " on", to >= 0);
        return to < 0 ? "" : text.substring(from + beginning.length(), to);
    }

    /** Each call of the example is made, and answers what stands behind it. */
    private static void example(String code) throws Exception {
        String[] lines = code.split("\n");
        DUE.yes("the example begins with two nodes", lines[0].startsWith("FarHeaps heaps = new FarHeaps(2);"));
        FarHeaps heaps = new FarHeaps(2);
        for (int i = 1; i < lines.length; i++) {
            Matcher line = CALL.matcher(lines[i]);
            boolean isCall = line.matches();
            DUE.yes("the example has a call and its answer in: " + lines[i], isCall);
            if (isCall) {
                String got = answer(heaps, line.group(1), line.group(2));
                DUE.yes(lines[i] + " answered " + got + ", which", got.equals(line.group(3)));
            }
        }
    }

    private static String answer(FarHeaps heaps, String name, String arguments) throws Exception {
        String[] words = arguments.isEmpty() ? new String[0] : arguments.split(", ");
        Class<?>[] types = new Class<?>[words.length];
        Arrays.fill(types, int.class);
        Object[] values = new Object[words.length];
        for (int i = 0; i < words.length; i++) {
            values[i] = words[i].equals("FarHeaps.NONE") ? FarHeaps.NONE : Integer.parseInt(words[i]);
        }
        return String.valueOf(FarHeaps.class.getMethod(name, types).invoke(heaps, values));
    }

    /** The table of calls has the document's signatures, each once, without their types. */
    private static void calls(String table) throws IOException {
        String document = Files.readString(Path.of("../shared/DOC.md"));
        Set<String> missing = new TreeSet<>();
        missing.add("FarHeaps");
        for (Method m : FarHeaps.class.getDeclaredMethods()) {
            if (Modifier.isPublic(m.getModifiers())) {
                missing.add(m.getName());
            }
        }
        Matcher call = SIGNATURE.matcher(table);
        while (call.find()) {
            String typed = call.group(1) + "(" + call.group(2).replaceAll("(\\w+)", "int $1") + ")";
            DUE.yes("the document has " + typed, document.contains(" " + typed + ";"));
            DUE.yes("README.md names just once " + call.group(1), missing.remove(call.group(1)));
        }
        for (String name : missing) {
            DUE.no("README.md leaves out " + name, true);
        }
    }

    /** The table of tests names the tests that are there. */
    private static void tests(String table) throws IOException {
        Set<String> there = new TreeSet<>();
        try (Stream<Path> files = Files.list(Path.of("src/test/java"))) {
            files.map(file -> file.getFileName().toString()).filter(name -> name.endsWith(".java"))
                .forEach(name -> there.add(name.substring(0, name.length() - ".java".length())));
        }
        Matcher test = Pattern.compile("(?m)^\\| `(\\w+)`").matcher(table);
        while (test.find()) {
            DUE.yes("there is, and README.md names just once, " + test.group(1), there.remove(test.group(1)));
        }
        for (String name : there) {
            DUE.no("README.md leaves out " + name, true);
        }
    }
}
