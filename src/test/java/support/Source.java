import java.util.HashSet;
import java.util.LinkedHashMap;
import java.util.Map;
import java.util.Set;
import java.util.regex.Matcher;
import java.util.regex.Pattern;

/** The methods of a source, by names, so that no two of its classes may have one of the same name. */
final class Source {

    private static final Pattern METHOD =
        Pattern.compile("(?ms)^( +)(?:public |private )(?:static )?([\\w\\[\\]]+ )?(\\w+)\\(([^)]*)\\) \\{\n(.*?)^\\1\\}");

    private final Map<String, String> bodies = new LinkedHashMap<>();
    private final Set<String> constructors = new HashSet<>();

    Source(String text) {
        Matcher method = METHOD.matcher(withoutComments(text));
        while (method.find()) {
            String name = method.group(3);
            if (bodies.put(name, method.group(5)) != null) {
                throw new IllegalArgumentException("two methods are named " + name);
            }
            if (method.group(2) == null) {
                constructors.add(name);
            }
        }
    }

    static String withoutComments(String text) {
        return text.replaceAll("(?s)/\\*.*?\\*/", "").replaceAll("//[^\n]*", "");
    }

    Set<String> names() {
        return bodies.keySet();
    }

    String body(String name) {
        return bodies.get(name);
    }

    boolean isConstructor(String name) {
        return constructors.contains(name);
    }

    int lines(String name) {
        return (int) bodies.get(name).lines().count() + 2;
    }

    /** How many methods stand open at once at most when it is called, itself among them. */
    int depth(String name) {
        return depth(name, new HashSet<>());
    }

    private int depth(String name, Set<String> open) {
        if (!open.add(name)) {
            throw new IllegalArgumentException(name + " calls itself");
        }
        int below = 0;
        for (String other : bodies.keySet()) {
            if (Pattern.compile("\\b" + other + "\\(").matcher(bodies.get(name)).find()) {
                below = Math.max(below, depth(other, open));
            }
        }
        open.remove(name);
        return below + 1;
    }
}
