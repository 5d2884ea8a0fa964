import java.io.IOException;
import java.lang.reflect.Constructor;
import java.lang.reflect.Field;
import java.lang.reflect.Member;
import java.lang.reflect.Method;
import java.lang.reflect.Modifier;
import java.nio.file.Files;
import java.nio.file.Path;
import java.util.Arrays;
import java.util.List;
import java.util.Set;
import java.util.TreeSet;

/** The public face of the document, and what can be seen of LANGUAGE.md's rules from outside. */
public final class FaceTest {
    private static final List<String> FACE = List.of(
        "int act(int, int, int, int, int)", "int both(int, int)", "int choice(int, int, int, int)",
        "int guard(int, int, int, int)", "int forget()", "int run(int)", "int ran(int)", "int clear()", "int count(int)",
        "int slot(int, int)", "long item(int, int)", "long register(int)", "int alike(int, int)", "int given(int, int)",
        "int report(int)", "int reached(int)", "int may(int)", "int ahead(int, int)", "int guarded(int, int)");
    private static final List<String> BANNED = List.of("throw", "throws", "try", "catch", "finally", "synchronized",
        "assert", "->", "::", "System.out", "System.err", "Exact", "\" +", "+ \"");
    private static final List<String> IMPORTS = List.of("import java.util.Arrays;", "import java.util.ArrayList;",
        "import java.util.List;", "import java.util.Iterator;");

    public static void main(String[] args) throws IOException {
        face();
        nested(ThrowReports.class);
        names();
        source();
        Check.end();
    }

    private static String told(Method m) {
        StringBuilder types = new StringBuilder();
        for (Class<?> type : m.getParameterTypes()) {
            types.append(types.length() == 0 ? "" : ", ").append(type.getName());
        }
        return m.getReturnType().getName() + " " + m.getName() + "(" + types + ")";
    }

    private static boolean isPublicOrPrivate(Member m) {
        return Modifier.isPublic(m.getModifiers()) || Modifier.isPrivate(m.getModifiers());
    }

    private static void face() {
        Class<?> face = ThrowReports.class;
        Check.holds("public and final", Modifier.isPublic(face.getModifiers()) && Modifier.isFinal(face.getModifiers()));
        Set<String> found = new TreeSet<>();
        for (Method m : face.getDeclaredMethods()) {
            Check.holds(m + " is public or private", isPublicOrPrivate(m));
            if (Modifier.isPublic(m.getModifiers())) {
                Check.holds(m + " is no static", !Modifier.isStatic(m.getModifiers()));
                found.add(told(m));
            }
        }
        Check.holds("methods " + found, found.equals(new TreeSet<>(FACE)));
        Set<String> fields = new TreeSet<>();
        for (Field f : face.getDeclaredFields()) {
            Check.holds(f + " is public or private", isPublicOrPrivate(f));
            Check.holds(f + " is final if static", !Modifier.isStatic(f.getModifiers()) || Modifier.isFinal(f.getModifiers()));
            if (Modifier.isPublic(f.getModifiers())) {
                fields.add(f.getName());
            }
        }
        Check.holds("constants " + fields, fields.equals(new TreeSet<>(List.of("BAD", "FULL"))));
        Constructor<?>[] constructors = face.getDeclaredConstructors();
        Check.holds("one public constructor", constructors.length == 1 && Modifier.isPublic(constructors[0].getModifiers())
            && constructors[0].getParameterCount() == 0);
    }

    private static void nested(Class<?> face) {
        Class<?>[] inside = face.getDeclaredClasses();
        Check.holds("some twelve classes", inside.length < 13);
        for (Class<?> c : inside) {
            Check.holds(c + " is static", Modifier.isStatic(c.getModifiers()) || c.isInterface());
            Check.holds(c + " is not public", !Modifier.isPublic(c.getModifiers()) && !Modifier.isProtected(c.getModifiers()));
            Check.holds(c + " has some twenty fields", Arrays.stream(c.getDeclaredFields())
                .filter(f -> !Modifier.isStatic(f.getModifiers())).count() <= 20);
            for (Field f : c.getDeclaredFields()) {
                Check.holds(f + " is final if static", !Modifier.isStatic(f.getModifiers()) || Modifier.isFinal(f.getModifiers()));
            }
            for (Method m : c.getDeclaredMethods()) {
                Check.holds(m + " has seven parameters at most", m.getParameterCount() <= 7);
            }
            for (Constructor<?> m : c.getDeclaredConstructors()) {
                Check.holds(m + " has seven parameters at most", m.getParameterCount() <= 7);
            }
            nested(c);
        }
    }

    private static void names() {
        Set<String> names = new TreeSet<>();
        for (Method m : ThrowReports.class.getMethods()) {
            names.add(m.getName());
        }
        namesOfPrivateMethods(ThrowReports.class, names);
        for (Class<?> c : ThrowReports.class.getDeclaredClasses()) {
            namesOfPrivateMethods(c, names);
        }
    }

    private static void namesOfPrivateMethods(Class<?> c, Set<String> names) {
        for (Method m : c.getDeclaredMethods()) {
            Check.holds(m + " has a name of its own", !Modifier.isPrivate(m.getModifiers()) || !names.contains(m.getName()));
        }
    }

    private static void source() throws IOException {
        String text = Files.readString(Path.of("src/main/java/ThrowReports.java"));
        String code = text.replaceAll("(?s)/\\*.*?\\*/", "").replaceAll("//[^\n]*", "");
        // The arrow of a switch is no lambda.
        code = code.replaceAll("(case [^;{}]*?|default)\\s*->", "$1 :");
        for (String word : BANNED) {
            boolean isWord = word.chars().allMatch(Character::isLetter);
            boolean found = isWord ? code.matches("(?s).*\\b" + word + "\\b.*") : code.contains(word);
            Check.holds("no '" + word + "'", !found);
        }
        for (String line : code.split("\n")) {
            Check.holds(line, !line.startsWith("import ") || IMPORTS.contains(line));
        }
        Check.holds("no package", !code.contains("package "));
        methodsStayShort(code);
    }

    private static void methodsStayShort(String code) {
        String[] lines = code.split("\n");
        int begun = -1;
        for (int i = 0; i < lines.length; i++) {
            if (lines[i].matches(" {4}( {4})?[a-z].*\\) \\{")) {
                begun = i;
            } else if (lines[i].matches(" {4}( {4})?\\}") && begun >= 0) {
                Check.holds(lines[begun] + " is short", i - begun < 60);
                begun = -1;
            }
        }
    }
}
