import java.lang.reflect.Constructor;
import java.lang.reflect.Field;
import java.lang.reflect.Method;
import java.lang.reflect.Modifier;
import java.nio.file.Files;
import java.nio.file.Path;
import java.util.Arrays;
import java.util.HashSet;
import java.util.Set;
import java.util.TreeSet;
import java.util.regex.Matcher;
import java.util.regex.Pattern;

/** The public face of the document, and what LANGUAGE.md rules out and a text search can find. */
public final class FaceTest {

    private static final Due DUE = new Due();

    private static final String[] FACE = {
        "int make(int, int, int)", "boolean set(int, int, int, int)", "boolean get(int, int, int, int)",
        "boolean number(int, int, int)", "boolean drop(int, int)", "int send(int, int, int, int)", "boolean ask(int, int)",
        "int come(int, int)", "int drain(int)", "int collect(int)", "int trial(int, int)", "int settle()", "int pass()",
        "int register(int, int, int)", "int field(int, int, int, int)", "int cell(int, int, int)", "int object(int, int, int)",
        "int weight(int, int, int)", "int message(int, int, int, int)", "int count(int, int)", "boolean isEven()"};

    private static final String[] RULED_OUT = {
        "\\bthrow\\b", "\\bthrows\\b", "\\btry\\b", "\\bcatch\\b", "\\bsynchronized\\b", "\\bassert\\b", "->", "::",
        "Exact\\(", "\\bpackage\\b", "\\bthread\\b", "\\bRandom\\b", "System\\.(?!arraycopy)", "^import (?!java\\.util\\.Arrays;)",
        "\\bhashCode\\b", "\\bprotected\\b", "\\bstatic\\s*\\{", "while \\(true\\)"};

    public static void main(String[] args) throws Exception {
        face();
        members(FarHeaps.class);
        for (Class<?> inside : FarHeaps.class.getDeclaredClasses()) {
            inside(inside);
        }
        source(Files.readString(Path.of("src/main/java/FarHeaps.java")));
        methods(new Source(Files.readString(Path.of("src/main/java/FarHeaps.java"))));
        DUE.end();
    }

    private static void face() throws Exception {
        Class<?> c = FarHeaps.class;
        DUE.yes("the class is public and final", Modifier.isPublic(c.getModifiers()) && Modifier.isFinal(c.getModifiers()));
        DUE.is("constructors", c.getDeclaredConstructors().length, 1);
        Constructor<?> made = c.getConstructor(int.class);
        DUE.yes("the constructor is public", Modifier.isPublic(made.getModifiers()));
        Field none = c.getField("NONE");
        DUE.yes("NONE is public, static, final", none.getModifiers() == (Modifier.PUBLIC | Modifier.STATIC | Modifier.FINAL));
        DUE.is("NONE", none.getInt(null), -1);
        Set<String> there = new TreeSet<>();
        for (Method m : c.getDeclaredMethods()) {
            if (!Modifier.isPrivate(m.getModifiers())) {
                String types = Arrays.toString(m.getParameterTypes()).replace("[", "(").replace("]", ")");
                there.add(m.getReturnType() + " " + m.getName() + types);
                DUE.yes(m.getName() + " is public, and not static", m.getModifiers() == Modifier.PUBLIC);
            }
        }
        for (String m : FACE) {
            DUE.yes("has " + m, there.remove(m));
        }
        for (String m : there) {
            DUE.no("has " + m, true);
        }
    }

    private static void members(Class<?> c) {
        for (Field f : c.getDeclaredFields()) {
            boolean isNone = f.getName().equals("NONE");
            DUE.yes(f.getName() + " is private", isNone || Modifier.isPrivate(f.getModifiers()));
            DUE.yes(f.getName() + " is final if static", !Modifier.isStatic(f.getModifiers()) || Modifier.isFinal(f.getModifiers()));
        }
    }

    private static void inside(Class<?> c) {
        DUE.yes(c.getSimpleName() + " is static", Modifier.isStatic(c.getModifiers()));
        DUE.no(c.getSimpleName() + " is public or protected", (c.getModifiers() & (Modifier.PUBLIC | Modifier.PROTECTED)) != 0);
        Set<String> names = new HashSet<>();
        for (Method m : FarHeaps.class.getDeclaredMethods()) {
            if (Modifier.isPublic(m.getModifiers())) {
                names.add(m.getName());
            }
        }
        for (Method m : c.getDeclaredMethods()) {
            DUE.no(c.getSimpleName() + "." + m.getName() + " has the name of a public one", names.contains(m.getName()));
            DUE.yes(m.getName() + " takes at most seven", m.getParameterCount() <= 7);
        }
        members(c);
    }

    private static void source(String text) {
        String code = Source.withoutComments(text);
        for (String pattern : RULED_OUT) {
            Matcher found = Pattern.compile(pattern, Pattern.MULTILINE).matcher(code);
            DUE.no("the source has " + pattern, found.find());
        }
        for (int i = 0; i < text.length(); i++) {
            DUE.yes("character " + i + " is at most 255", text.charAt(i) <= 255);
        }
    }

    /** Rules 8, 11 and 12, and that no call makes an object. */
    private static void methods(Source source) {
        int found = 0;
        for (String name : source.names()) {
            DUE.yes(name + " is at most sixty lines long", source.lines(name) <= 60);
            DUE.yes(name + " calls at most eight deep, itself told", source.depth(name) <= 8);
            if (!source.isConstructor(name)) {
                found++;
                DUE.no(name + " makes an object", source.body(name).matches("(?s).*\\bnew\\b.*"));
            }
        }
        DUE.is("methods that were found in the source", found, declaredMethods());
    }

    private static int declaredMethods() {
        int sum = FarHeaps.class.getDeclaredMethods().length;
        for (Class<?> inside : FarHeaps.class.getDeclaredClasses()) {
            sum += inside.getDeclaredMethods().length;
        }
        return sum;
    }
}
