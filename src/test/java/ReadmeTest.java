import java.io.File;
import java.io.IOException;
import java.lang.reflect.InvocationTargetException;
import java.lang.reflect.Method;
import java.nio.charset.StandardCharsets;
import java.nio.file.Files;
import java.nio.file.Path;
import java.util.HashMap;
import java.util.List;
import java.util.Map;
import java.util.Set;
import java.util.TreeSet;
import java.util.regex.Matcher;
import java.util.regex.Pattern;

/** What README.md says is so: the answers behind its calls, that each call stands in its tables, and the tests that it names. */
public final class ReadmeTest {
    private static final Pattern MADE = Pattern.compile("PowersForTimes x = new PowersForTimes\\(\\);.*");
    private static final Pattern CALL = Pattern.compile("(?:int ([a-z]+) = )?x\\.([a-z]+)\\((.*?)\\); *// (-?\\d+)\\b.*");
    private static final Pattern ROW = Pattern.compile("\\| `([a-z]+\\([a-z0-9, ]*\\))` \\| .+ \\| .+ \\|");
    private static final Pattern TEST = Pattern.compile("\\b[A-Z][A-Za-z]*Test\\b");
    private static final String HEAD = "| call | what it does and answers | NONE |";

    private final Map<String, Integer> numbers = new HashMap<>();
    private final Set<String> called = new TreeSet<>();
    private PowersForTimes x = null;

    public static void main(String[] args) throws IOException, ReflectiveOperationException {
        List<String> lines = Files.readAllLines(Path.of("README.md"), StandardCharsets.UTF_8);
        new ReadmeTest().examples(lines);
        tables(lines);
        tests(String.join("\n", lines));
        Due.finish();
    }

    /** Each line of the example is tried, and each call of the face is in it. */
    private void examples(List<String> lines) throws ReflectiveOperationException {
        boolean in = false;
        for (String line : lines) {
            if (line.startsWith("```")) {
                in = line.equals("```java");
            } else if (in && !line.isBlank()) {
                example(line);
            }
        }
        Set<String> face = new TreeSet<>();
        for (String call : face()) {
            face.add(call.replaceAll("\\(.*", ""));
        }
        Due.holds("the calls tried, " + called + ", are " + face + ", that it", called.equals(face));
    }

    private void example(String line) throws ReflectiveOperationException {
        if (MADE.matcher(line).matches()) {
            x = new PowersForTimes();
            return;
        }
        Matcher m = CALL.matcher(line);
        boolean is = m.matches() && x != null;
        Due.holds("«" + line + "» is a call and its answer, that it", is);
        if (is) {
            int got = answer(m.group(2), m.group(3));
            Due.due(line.replaceAll(";.*", ""), got, Integer.parseInt(m.group(4)));
            numbers.put(String.valueOf(m.group(1)), got);
            called.add(m.group(2));
        }
    }

    private int answer(String name, String list) throws ReflectiveOperationException {
        String[] words = list.isEmpty() ? new String[0] : list.split(", ");
        for (Method method : PowersForTimes.class.getMethods()) {
            if (method.getName().equals(name) && method.getParameterCount() == words.length) {
                Object[] values = new Object[words.length];
                for (int i = 0; i < words.length; i++) {
                    values[i] = value(words[i]);
                }
                try {
                    return (int) method.invoke(x, values);
                } catch (InvocationTargetException | IllegalArgumentException e) {
                    Due.holds(name + "(" + list + ") without " + e, false);
                    return Integer.MIN_VALUE;
                }
            }
        }
        Due.holds("a call " + name + " of " + words.length, false);
        return Integer.MIN_VALUE;
    }

    private Object value(String word) {
        if (word.equals("true") || word.equals("false")) {
            return word.equals("true");
        }
        if (word.equals("PowersForTimes.NONE")) {
            return PowersForTimes.NONE;
        }
        return numbers.containsKey(word) ? numbers.get(word) : Integer.decode(word);
    }

    /** Each call of the face has one row, its arguments by their names, and no other call has one. */
    private static void tables(List<String> lines) {
        Set<String> rows = new TreeSet<>();
        for (String line : lines) {
            if (line.startsWith("|") && !line.equals(HEAD) && !line.equals("| --- | --- | --- |")) {
                Matcher m = ROW.matcher(line);
                boolean is = m.matches();
                Due.holds("«" + line + "» is a row of a call, that it", is);
                Due.holds("«" + line + "» is the only row of its call, that it", is && rows.add(m.group(1)));
            }
        }
        Due.holds("the rows, " + rows + ", are " + face() + ", that it", rows.equals(face()));
    }

    /** As the document has them, which FaceTest holds against the class. */
    private static Set<String> face() {
        Set<String> face = new TreeSet<>();
        for (Method m : Edges.testsOf(FaceTest.class)) {
            if (m.getName().equals("faceMethods")) {
                for (String line : m.getAnnotation(Says.class).value()) {
                    face.add(line.replaceAll("public int (.*);", "$1").replaceAll("(int|boolean) ", ""));
                }
            }
        }
        return face;
    }

    private static void tests(String all) {
        Set<String> named = new TreeSet<>();
        Matcher m = TEST.matcher(all);
        while (m.find()) {
            named.add(m.group());
        }
        Set<String> there = new TreeSet<>();
        File[] files = new File("src/test/java").listFiles();
        for (File file : files == null ? new File[0] : files) {
            if (file.getName().endsWith("Test.java")) {
                there.add(file.getName().replace(".java", ""));
            }
        }
        Due.holds("the tests named, " + named + ", are " + there + ", that it", named.equals(there));
    }
}
