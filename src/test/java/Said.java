import java.io.IOException;
import java.nio.file.Files;
import java.nio.file.Path;
import java.util.ArrayList;
import java.util.List;

/** Answers that are due by words of the document: which words those are, and which ones nothing was asked of. */
final class Said {
    static final int TERMS = 0, PROMISES = 39;

    private final String[] sections = new String[PROMISES + 1];
    private final boolean[][] quoted = new boolean[PROMISES + 1][];
    private final List<String> unasked = new ArrayList<>();
    private final Due due = new Due();
    private String words = "";

    Said(Path document) throws IOException {
        String doc = Files.readString(document);
        sections[TERMS] = between(doc, "## Terms", "## Promise 1:");
        for (int promise = 1; promise <= PROMISES; promise++) {
            // behind the face of the call, which stands in `..`:
            sections[promise] = between(between(doc, "## Promise " + promise + ":", "\n## "), "`: ", "\n## ");
        }
        for (int i = 0; i < sections.length; i++) {
            sections[i] = plain(sections[i]);
            quoted[i] = new boolean[sections[i].length()];
        }
    }

    static String between(String text, String from, String to) {
        int begin = text.indexOf(from);
        if (begin < 0) {
            throw new IllegalStateException("nothing holds " + from);
        }
        int end = text.indexOf(to, begin + from.length());
        return text.substring(begin + from.length(), end < 0 ? text.length() : end);
    }

    // rules of signs and frames around a block are none of the words
    static String plain(String text) {
        return text.replaceAll("```(text)?|=+ \\d ", " ").replaceAll("\\s+", " ").trim();
    }

    /** The answers asked from here on are due by these words of a promise (0: of the Terms). */
    void says(int section, String quote) {
        words = (section == TERMS ? "Terms: " : "Promise " + section + ": ") + quote;
        int at = sections[section].indexOf(quote);
        due.due("the document holds «" + words + "»", at >= 0 ? 1 : 0, 1);
        for (int i = Math.max(at, 0); i < at + quote.length(); i++) {
            quoted[section][i] = true;
        }
        unasked.add(words);
    }

    /** Words that no answer can break, or that other words say too. */
    void passesOver(String quote) {
        says(TERMS, quote);
        unasked.remove(words);
    }

    void due(String call, long got, long want) {
        unasked.remove(words);
        due.due("«" + words + "» " + call, got, want);
    }

    /** Ends the test: each quote has been asked of, and no letter of the document is left out. */
    void end() {
        for (String quote : unasked) {
            due.due("answers asked by «" + quote + "»", 0, 1);
        }
        for (int section = 0; section <= PROMISES; section++) {
            String left = unquoted(section);
            due.due("section " + section + " leaves out «" + left + "»", left.isEmpty() ? 0 : 1, 0);
        }
        due.end();
    }

    private String unquoted(int section) {
        StringBuilder left = new StringBuilder();
        boolean goesOn = false;
        for (int i = 0; i < quoted[section].length; i++) {
            char c = sections[section].charAt(i);
            if (!quoted[section][i] && (goesOn || Character.isLetterOrDigit(c))) {
                left.append(goesOn || left.length() == 0 ? "" : " .. ").append(c);
            }
            goesOn = !quoted[section][i] && (goesOn || Character.isLetterOrDigit(c));
        }
        return left.toString();
    }
}
