import java.io.IOException;
import java.lang.reflect.Method;
import java.lang.reflect.Modifier;
import java.nio.file.Files;
import java.nio.file.Path;
import java.util.ArrayList;
import java.util.HashMap;
import java.util.List;
import java.util.Map;
import java.util.regex.Matcher;
import java.util.regex.Pattern;

/** README.md's example, done line by line, and whether its tables have every call and every ACT as they are. */
public final class ReadmeTest {
    private static final Pattern LINE =
        Pattern.compile("(?:int (\\w+) = )?x\\.(\\w+)\\((.*)\\);\\s*(?://\\s*(?:(-?\\d+):)?.*)?");
    private static final String[] OPS = {"MAKE", "DEEP", "THIN", "FIGURE", "MOVE", "GET", "SET", "TAKE", "LAY", "LENGTH",
        "CLONE", "TELLS", "COPY", "NUMBER", "ADD", "DIVIDE", "REST", "FAIL"};

    private final ThrowReports x = new ThrowReports();
    private final Map<String, Integer> names = new HashMap<>();
    private int answersTold;

    public static void main(String[] args) throws Exception {
        String text = Files.readString(Path.of("README.md"));
        new ReadmeTest().example(text);
        calls(text);
        acts(text);
        tests(text);
        Check.end();
    }

    private void example(String text) throws Exception {
        int from = text.indexOf("```java\n") + "```java\n".length();
        for (String line : text.substring(from, text.indexOf("```", from)).split("\n")) {
            if (!line.isBlank() && !line.equals("ThrowReports x = new ThrowReports();")) {
                exampleLine(line);
            }
        }
        Check.holds("the example tells answers", answersTold > 5);
    }

    private void exampleLine(String line) throws Exception {
        Matcher found = LINE.matcher(line);
        Check.holds("'" + line + "' is a call", found.matches());
        if (!found.matches()) {
            return;
        }
        long got = answer(found.group(2), found.group(3));
        if (found.group(1) != null) {
            Check.holds(line + " is not refused", got >= 0);
            names.put(found.group(1), (int) got);
        }
        if (found.group(4) != null) {
            answersTold++;
            Check.due(line, got, Long.parseLong(found.group(4)));
        }
    }

    private long answer(String name, String words) throws Exception {
        List<Object> numbers = new ArrayList<>();
        for (String word : words.isEmpty() ? new String[0] : words.split(", ")) {
            numbers.add(number(word));
        }
        for (Method method : ThrowReports.class.getDeclaredMethods()) {
            if (method.getName().equals(name) && Modifier.isPublic(method.getModifiers())) {
                return ((Number) method.invoke(x, numbers.toArray())).longValue();
            }
        }
        throw new IllegalArgumentException(name);
    }

    private int number(String word) {
        String[] shifted = word.split(" << ");
        if (shifted.length == 2) {
            return number(shifted[0]) << number(shifted[1]);
        }
        return names.containsKey(word) ? names.get(word) : Integer.parseInt(word);
    }

    private static void calls(String text) {
        for (Method method : ThrowReports.class.getDeclaredMethods()) {
            if (Modifier.isPublic(method.getModifiers())) {
                Matcher row = Pattern.compile("\n\\| `" + method.getName() + "\\((.*?)\\)` \\|").matcher(text);
                boolean found = row.find();
                Check.holds("README.md has a row for " + method.getName(), found);
                int told = !found || row.group(1).isEmpty() ? 0 : row.group(1).split(", ").length;
                Check.due("parameters told of " + method.getName(), told, method.getParameterCount());
            }
        }
    }

    private static void acts(String text) {
        for (int op = 0; op < OPS.length; op++) {
            Matcher row = Pattern.compile("\n\\| " + op + " ([A-Z]+) \\| (.), (.), (.), (.) \\|").matcher(text);
            boolean found = row.find();
            Check.holds("README.md has a row for " + OPS[op], found);
            if (found) {
                Check.same("name of ACT " + op, row.group(1), OPS[op]);
                for (int at = 0; at < 4; at++) {
                    String told = row.group(2 + at).replaceAll("[-i]", "n");
                    Check.same("number " + at + " of " + OPS[op], told, letterOf(op, at));
                }
            }
        }
    }

    /** What a number of an ACT is, seen from what is refused there. */
    private static String letterOf(int op, int at) {
        if (isTaken(op, at, Integer.MAX_VALUE)) {
            return "n";
        }
        int taken = 0;
        for (int value = 0; value < 31; value++) {
            taken |= isTaken(op, at, value) ? 1 << value : 0;
        }
        return taken == (1 << 12) - 1 ? "S" : taken == (1 << 8) - 1 ? "R" : "K";
    }

    private static boolean isTaken(int op, int at, int value) {
        return isTakenAmong(1, op, at, value) || isTakenAmong(5, op, at, value);
    }

    /** 1 and 5 are SLOTS and REGISTERS; of each ACT that asks for a KIND, one of them is such. */
    private static boolean isTakenAmong(int others, int op, int at, int value) {
        int[] numbers = {others, others, others, others};
        numbers[at] = value;
        return new ThrowReports().act(op, numbers[0], numbers[1], numbers[2], numbers[3]) >= 0;
    }

    private static void tests(String text) throws IOException {
        try (var files = Files.list(Path.of("src/test/java"))) {
            for (Path file : (Iterable<Path>) files::iterator) {
                String name = file.getFileName().toString().replace(".java", "");
                Check.holds("README.md tells of " + name, text.contains("`" + name + "`"));
            }
        }
    }
}
