import java.io.IOException;
import java.lang.reflect.Method;
import java.lang.reflect.Modifier;
import java.nio.file.DirectoryStream;
import java.nio.file.Files;
import java.nio.file.Path;
import java.util.Set;
import java.util.TreeSet;
import java.util.regex.Matcher;
import java.util.regex.Pattern;

/** That README.md tells the class and its tests as they stand. */
public final class ReadmeTest extends Bench {
    private static final Pattern TEXT = Pattern.compile("String text = \"(.*)\";");
    private static final Pattern CALL = Pattern.compile("x\\.(\\w+)\\((.*)\\); +// (-?\\d+)\\b.*");
    private static final Pattern ROW = Pattern.compile("(?m)^\\| `(\\w+)\\(([^)]*)\\)` \\|.*\\|.*\\|$");

    public static void main(String[] args) throws Exception {
        String readme = Files.readString(Path.of("README.md"));
        runOfCalls(readme);
        tableOfCalls(readme);
        listOfTests(readme);
        check.end("ReadmeTest");
    }

    private static Set<Method> face() {
        Set<Method> face = new TreeSet<>((a, b) -> a.getName().compareTo(b.getName()));
        for (Method m : BackwardsLine.class.getDeclaredMethods()) {
            if (Modifier.isPublic(m.getModifiers())) {
                face.add(m);
            }
        }
        return face;
    }

    private static Method method(String name) {
        for (Method m : face()) {
            if (m.getName().equals(name)) {
                return m;
            }
        }
        throw new IllegalArgumentException("no call " + name);
    }

    private static Object[] arguments(String told) {
        String[] words = told.isEmpty() ? new String[0] : told.split(", ");
        Object[] numbers = new Object[words.length];
        for (int i = 0; i < words.length; i++) {
            boolean isTruth = words[i].equals("true") || words[i].equals("false");
            numbers[i] = isTruth ? (Object) Boolean.valueOf(words[i]) : (Object) Integer.valueOf(words[i]);
        }
        return numbers;
    }

    private static void runOfCalls(String readme) throws Exception {
        check.promise("README, a run of calls");
        int start = readme.indexOf("```java\n");
        int end = readme.indexOf("```\n", start + 1);
        check.holds("there is one", start >= 0 && end > start);
        BackwardsLine x = new BackwardsLine();
        String text = "";
        Set<String> called = new TreeSet<>(Set.of("write"));
        for (String line : readme.substring(start, end).split("\n")) {
            Matcher told = TEXT.matcher(line);
            Matcher call = CALL.matcher(line);
            if (told.matches()) {
                text = told.group(1);
            } else if (line.startsWith("for (")) {
                letters(x, text);
            } else if (call.matches()) {
                called.add(call.group(1));
                int got = (Integer) method(call.group(1)).invoke(x, arguments(call.group(2)));
                due(line, got, Integer.parseInt(call.group(3)));
            } else {
                check.holds("it is read: " + line, line.startsWith("```") || line.contains("new BackwardsLine()"));
            }
        }
        for (Method m : face()) {
            check.holds(m.getName() + " is called", called.contains(m.getName()));
        }
    }

    private static void tableOfCalls(String readme) {
        check.promise("README, the calls");
        Set<String> rows = new TreeSet<>();
        Matcher row = ROW.matcher(readme);
        while (row.find()) {
            rows.add(row.group(1));
            int numbers = row.group(2).isEmpty() ? 0 : row.group(2).split(", ").length;
            due(row.group(1) + " takes", numbers, method(row.group(1)).getParameterCount());
        }
        for (Method m : face()) {
            check.holds(m.getName() + " has a row", rows.contains(m.getName()));
        }
        String[] names = {"BAD", "NO", "FULL", "NONE"};
        int[] values = {BAD, NO, FULL, NONE};
        for (int i = 0; i < names.length; i++) {
            check.holds(names[i] + " has a row", readme.contains("| " + values[i] + " | `" + names[i] + "` |"));
        }
    }

    private static void listOfTests(String readme) throws IOException {
        check.promise("README, tests");
        int tests = 0;
        try (DirectoryStream<Path> files = Files.newDirectoryStream(Path.of("src/test/java"), "*.java")) {
            for (Path file : files) {
                tests++;
                check.holds(file + " is named", readme.contains("`" + file.getFileName() + "`"));
            }
        }
        check.holds("tests were found", tests > 8);
    }
}
