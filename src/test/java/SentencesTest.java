import java.io.IOException;
import java.lang.reflect.Method;
import java.nio.charset.StandardCharsets;
import java.nio.file.Files;
import java.nio.file.Path;
import java.util.HashSet;
import java.util.LinkedHashMap;
import java.util.Map;
import java.util.Set;

/** Each sentence that a test says stands in the document, and each sentence of the document has a test that says it. */
public final class SentencesTest {
    private static final Class<?>[] TESTS = {FaceTest.class, TermsEdgesTest.class, TextsEdgesTest.class, ModulesEdgesTest.class,
        NumbersEdgesTest.class, StepsEdgesTest.class};
    /** What no answer can show. */
    private static final String[] WITHOUT = {"as are the speed of each call, the text of toString and the behaviour of equals and hashCode.",
        "Use of one object from several threads at once is not promised to be safe.", "and nothing about an object after its 512th call.",
        "```java", "```text", "```", "{ }"};

    public static void main(String[] args) throws IOException {
        Path file = Path.of("..", "shared", "DOC.md");
        if (!Files.exists(file)) {
            System.out.println("no " + file + " here: the sentences are not looked for");
            Due.holds("there are tests", !Edges.testsOf(TermsEdgesTest.class).isEmpty());
            Due.finish();
            return;
        }
        Map<String, String> sections = sections(Files.readString(file, StandardCharsets.UTF_8));
        Set<String> said = new HashSet<>();
        for (Class<?> tests : TESTS) {
            for (Method m : Edges.testsOf(tests)) {
                Says says = m.getAnnotation(Says.class);
                String section = sections.getOrDefault(says.at(), "");
                for (String sentence : says.value()) {
                    Due.holds(m.getName() + ": «" + sentence + "» stands in " + says.at(), section.contains(sentence));
                    said.add(says.at() + "|" + sentence);
                }
            }
        }
        for (String name : sections.keySet()) {
            String left = left(name, sections.get(name), said);
            Due.holds(name + ": each sentence has a test; without one is «" + left + "», that it is nothing", left.isEmpty());
        }
        Due.due("sections", sections.size(), 41);
        Due.finish();
    }

    /** What of a section no test says. */
    private static String left(String name, String section, Set<String> said) {
        StringBuilder left = new StringBuilder();
        boolean[] covered = new boolean[section.length()];
        for (String key : said) {
            if (key.startsWith(name + "|")) {
                cover(section, key.substring(name.length() + 1), covered);
            }
        }
        for (String without : WITHOUT) {
            cover(section, without, covered);
        }
        for (int i = 0; i < covered.length; i++) {
            left.append(covered[i] ? ' ' : section.charAt(i));
        }
        return left.toString().replaceAll("[ {}]+", " ").trim();
    }

    private static void cover(String section, String sentence, boolean[] covered) {
        for (int at = section.indexOf(sentence); at >= 0; at = section.indexOf(sentence, at + 1)) {
            for (int i = at; i < at + sentence.length(); i++) {
                covered[i] = true;
            }
        }
    }

    /** The sections by their names, each in one line; of the terms' parts each is one, and a call's own line is left out. */
    private static Map<String, String> sections(String doc) {
        Map<String, String> sections = new LinkedHashMap<>();
        String name = "";
        for (String line : doc.split("\n")) {
            if (line.startsWith("#")) {
                name = line.replaceAll("^#+ *", "").replaceAll("(Promise \\d+):.*", "$1");
            } else {
                if (line.startsWith("==== I")) {
                    name = line.replaceAll("==== (I+V?)\\..*", "$1");
                }
                String rest = line.replaceAll("^==== I+V?\\. *", "");
                rest = name.startsWith("Promise") ? rest.replaceAll("^`[^`]*`: *", "") : rest;
                sections.merge(name, rest.trim(), (a, b) -> (a + " " + b).replaceAll(" +", " "));
            }
        }
        sections.remove("");
        sections.remove("PowersForTimes");
        String whole = sections.get("What it is");
        sections.put("What it is", whole.substring(Math.max(0, whole.indexOf("An object is used"))));
        return sections;
    }
}
