import java.io.IOException;
import java.lang.reflect.Method;
import java.nio.file.Files;
import java.nio.file.Path;
import java.util.Set;
import java.util.TreeSet;
import java.util.regex.Matcher;
import java.util.regex.Pattern;
import java.util.stream.Stream;

/** README.md: its examples answer as it says, it has the document's words, and it names every test. */
public final class ReadmeTest {
    private static final Due D = new Due();
    private static final Pattern EXAMPLE = Pattern.compile("gate\\.(\\w+)\\((.*?)\\);\\s+// (-?\\d+)\\b.*");

    public static void main(String[] args) throws ReflectiveOperationException, IOException {
        String readme = Files.readString(Path.of("README.md")), doc = Files.readString(Path.of("../shared/DOC.md"));
        examples(Said.between(readme, "```java\n", "```"));
        promises(readme, doc);
        terms(readme, Said.plain(Said.between(doc, "## Terms", "## Promise 1:")));
        tests(readme);
        D.end();
    }

    private static void examples(String code) throws ReflectiveOperationException {
        LemonGate gate = null;
        for (String line : code.split("\n")) {
            Matcher m = EXAMPLE.matcher(line);
            if (line.equals("LemonGate gate = new LemonGate();")) {
                gate = new LemonGate();
            } else if (m.matches()) {
                D.due("README: " + line, answer(gate, m.group(1), m.group(2)), Long.parseLong(m.group(3)));
            } else {
                D.due("README: a line that can be asked: " + line, line.isEmpty() ? 1 : 0, 1);
            }
        }
    }

    private static long answer(LemonGate gate, String name, String told) throws ReflectiveOperationException {
        String[] words = told.isEmpty() ? new String[0] : told.split(", ");
        for (Method m : LemonGate.class.getMethods()) {
            if (m.getName().equals(name) && m.getParameterCount() == words.length) {
                Object[] values = new Object[words.length];
                for (int i = 0; i < words.length; i++) {
                    long v = words[i].startsWith("'") ? words[i].charAt(1) : Long.parseLong(words[i]);
                    values[i] = m.getParameterTypes()[i] == long.class ? (Object) v : (Object) (int) v;
                }
                return ((Number) m.invoke(gate, values)).longValue();
            }
        }
        throw new NoSuchMethodException(name + " of " + told);
    }

    // each call has a row of its own, with the promise's words
    private static void promises(String readme, String doc) {
        for (int promise = 1; promise <= Said.PROMISES; promise++) {
            String words = Said.plain(Said.between(doc, "## Promise " + promise + ":", "\n## "));
            int face = words.indexOf('`'), end = words.indexOf("`: ");
            String row = "| " + words.substring(face, end + 1) + " | " + words.substring(end + 3) + " |";
            D.due("README has the row " + row, readme.contains("\n" + row + "\n") ? 1 : 0, 1);
        }
    }

    private static void terms(String readme, String terms) {
        String words = readme.replaceAll("(?m)^- |^```.*$", " ").replaceAll("\\s+", " ");
        // a sentence ends with one dot: two are a span of numbers, one behind a blank is a sign of its own
        for (String sentence : terms.split("(?<![. ])\\. ")) {
            if (sentence.startsWith("Ahead of the calls")) {
                group(readme, sentence);
            } else {
                D.due("README says: " + sentence, words.contains(sentence.replaceAll("\\.$", "")) ? 1 : 0, 1);
            }
        }
    }

    private static void group(String readme, String sentence) {
        String title = sentence.replaceAll(".*---- |\\.$", ""), capital = title.substring(0, 1).toUpperCase() + title.substring(1);
        String section = Said.between(readme, "\n## " + capital + "\n", "\n## ");
        Matcher m = Pattern.compile("`(\\w+)`").matcher(sentence);
        while (m.find()) {
            D.due("README has " + m.group(1) + " among " + title, section.contains(" " + m.group(1) + "(") ? 1 : 0, 1);
        }
    }

    private static void tests(String readme) throws IOException {
        Set<String> named = new TreeSet<>(), there = new TreeSet<>();
        Matcher m = Pattern.compile("\\| `(\\w+Test)` \\|").matcher(readme);
        while (m.find()) {
            named.add(m.group(1));
        }
        try (Stream<Path> files = Files.list(Path.of("src/test/java"))) {
            files.map(f -> f.getFileName().toString()).filter(f -> f.endsWith("Test.java")).forEach(f -> there.add(f.replace(".java", "")));
        }
        D.due("README names the tests " + there + ", not " + named, named.equals(there) ? 1 : 0, 1);
    }
}
