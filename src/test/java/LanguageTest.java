import java.lang.reflect.Constructor;
import java.lang.reflect.Field;
import java.lang.reflect.Method;
import java.lang.reflect.Modifier;
import java.nio.charset.StandardCharsets;
import java.nio.file.Files;
import java.nio.file.Path;
import java.util.Arrays;
import java.util.Map;
import java.util.Set;
import java.util.TreeMap;
import java.util.TreeSet;
import java.util.regex.Matcher;
import java.util.regex.Pattern;

/** What of ../shared/LANGUAGE.md can be seen by a look at the class and its text. */
public final class LanguageTest {
    private static final String FACE = "again(int) at(int) back() behind(int,int) besides(int) count(int) day(int,int,int) "
            + "family(int,int) fault() forget() gains() giveUp(int) keep() kinds(int) lay() leave(int) pass(int) pays() "
            + "person(int,int) rumours(int,int,int,int) see(int,int,boolean) sneeze(int) sneezed() undo() warmth(int) "
            + "when(int) wipe() write(int)";
    private static final String[] RULED_OUT = {"import ", "package ", "try ", "catch", "finally", "throw", "->", "::",
        "synchronized", "assert", "static {", "System.out", "Object ", "double", "float", ".equals", "hashCode",
        "toString", "protected", "native", "volatile", "Random", "currentTime", "nanoTime", "Exact", "lambda"};
    private static final Pattern METHOD = Pattern.compile(
            "(?m)^( {4}| {8})(?!if |for |while |switch |else )(?=\\w)[^;=\n]*?\\b(\\w+)\\([^;=\n]*\\) \\{$");
    private static final Check check = new Check();

    public static void main(String[] args) throws Exception {
        check.promise("LANGUAGE");
        face();
        classesInside();
        text(Files.readString(Path.of("src/main/java/BackwardsLine.java"), StandardCharsets.US_ASCII));
        check.end("LanguageTest");
    }

    private static String told(Method m) {
        StringBuilder line = new StringBuilder(m.getName()).append('(');
        for (Class<?> type : m.getParameterTypes()) {
            line.append(line.charAt(line.length() - 1) == '(' ? "" : ",").append(type.getSimpleName());
        }
        return line.append(')').toString();
    }

    private static void face() {
        Class<?> c = BackwardsLine.class;
        check.holds("public and final", Modifier.isPublic(c.getModifiers()) && Modifier.isFinal(c.getModifiers()));
        Set<String> open = new TreeSet<>();
        Set<String> names = new TreeSet<>();
        for (Method m : c.getDeclaredMethods()) {
            if (!Modifier.isPrivate(m.getModifiers())) {
                check.holds(m + " is public, of an object, and answers an int", Modifier.isPublic(m.getModifiers())
                        && !Modifier.isStatic(m.getModifiers()) && m.getReturnType() == int.class);
                open.add(told(m));
                names.add(m.getName());
            }
        }
        check.holds("the face is " + open, open.equals(new TreeSet<>(Arrays.asList(FACE.split(" ")))));
        for (Class<?> inside : allClasses()) {
            for (Method m : inside.getDeclaredMethods()) {
                check.holds(m + " bears no public one's name",
                        Modifier.isPublic(m.getModifiers()) || !names.contains(m.getName()));
            }
        }
        Constructor<?>[] made = c.getDeclaredConstructors();
        check.holds("one constructor", made.length == 1 && Modifier.isPublic(made[0].getModifiers())
                && made[0].getParameterCount() == 0);
        for (Field f : c.getDeclaredFields()) {
            check.holds(f + " may be seen", Modifier.isPrivate(f.getModifiers())
                    || Set.of("BAD", "NO", "FULL", "NONE").contains(f.getName()));
        }
    }

    private static Class<?>[] allClasses() {
        Class<?>[] inside = BackwardsLine.class.getDeclaredClasses();
        Class<?>[] all = Arrays.copyOf(inside, inside.length + 1);
        all[inside.length] = BackwardsLine.class;
        return all;
    }

    private static void classesInside() {
        check.holds("at most twelve classes", allClasses().length <= 12);
        for (Class<?> c : allClasses()) {
            int fields = 0;
            for (Field f : c.getDeclaredFields()) {
                boolean fixed = Modifier.isStatic(f.getModifiers());
                fields += fixed ? 0 : 1;
                check.holds(f + ": static fields are final", !fixed || Modifier.isFinal(f.getModifiers()));
            }
            check.holds(c + " has at most twenty fields", fields <= 20);
            check.holds(c + " is static inside", c == BackwardsLine.class || Modifier.isStatic(c.getModifiers())
                    && !Modifier.isPublic(c.getModifiers()) && !Modifier.isProtected(c.getModifiers()));
            for (Method m : c.getDeclaredMethods()) {
                check.holds(m + " takes at most seven", m.getParameterCount() <= 7);
            }
        }
    }

    private static void text(String source) {
        String code = source.replaceAll("(?s)/\\*.*?\\*/", "").replaceAll("//[^\n]*", "");
        for (String word : RULED_OUT) {
            check.holds("no " + word, !code.contains(word));
        }
        // so that calls make nothing: all rows are made with the object
        for (String line : code.split("\n")) {
            boolean inField = line.matches("\\s*private final \\S+ \\w+ = new .*");
            check.holds("made by a constructor: " + line, !line.contains("new ") || inField
                    || line.contains("new Line[Math.max(0, most)]") || line.contains("lines[i] = new Line()"));
        }
        Map<String, String> bodies = bodies(code);
        check.holds("methods were found", bodies.size() > 60);
        check.holds("and nothing else " + bodies.keySet(), bodies.keySet().equals(declared()));
        depth(bodies);
    }

    /** By name: methods of one name in several classes are taken as one, so that no call is missed. */
    private static Map<String, String> bodies(String code) {
        Map<String, String> bodies = new TreeMap<>();
        Matcher method = METHOD.matcher(code);
        while (method.find()) {
            int end = code.indexOf("\n" + method.group(1) + "}\n", method.end());
            long lines = code.substring(method.start(), end).lines().count();
            check.holds(method.group().trim() + " is short", lines <= 60);
            bodies.merge(method.group(2), code.substring(method.end(), end), String::concat);
        }
        return bodies;
    }

    /** Names of all methods, and of those constructors that are written out. */
    private static Set<String> declared() {
        Set<String> names = new TreeSet<>(Set.of("BackwardsLine", "Shelf"));
        for (Class<?> c : allClasses()) {
            for (Method m : c.getDeclaredMethods()) {
                names.add(m.getName());
            }
        }
        return names;
    }

    /** Rule 8: nothing calls itself; rule 11: calls go at most eight deep, one of the library counted too. */
    private static void depth(Map<String, String> bodies) {
        for (String name : bodies.keySet()) {
            int deep = depthOf(name, bodies, 1);
            check.holds(name + " goes " + deep + " calls deep", deep <= 8);
        }
    }

    private static int depthOf(String name, Map<String, String> bodies, int level) {
        int deepest = level;
        if (level > 8 || !bodies.containsKey(name)) {
            return level;
        }
        Matcher call = Pattern.compile("(\\w+)\\(").matcher(bodies.get(name));
        while (call.find()) {
            deepest = Math.max(deepest, depthOf(call.group(1), bodies, level + 1));
        }
        return deepest;
    }
}
