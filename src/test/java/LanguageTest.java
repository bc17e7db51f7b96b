import java.io.IOException;
import java.lang.reflect.Field;
import java.lang.reflect.Method;
import java.lang.reflect.Modifier;
import java.nio.file.Files;
import java.nio.file.Path;
import java.util.Set;
import java.util.TreeSet;
import java.util.regex.Matcher;
import java.util.regex.Pattern;

/** What can be looked at of LANGUAGE.md: the face, words that the source must not hold, lengths. */
public final class LanguageTest {
    private static final Due D = new Due();
    private static final String[] FACE = {"heat", "heats", "place", "flow", "stand", "mend", "of", "feed", "law", "taste", "day",
        "told", "best", "where", "judge", "seeded", "make", "undercut", "brings", "minutes", "share", "slate", "owes", "wiped",
        "image", "back", "undo", "redo", "body", "act", "trace", "keep", "row", "put", "element", "shift", "taken", "count"};

    public static void main(String[] args) throws IOException {
        face();
        classes();
        source(Files.readString(Path.of(args.length > 0 ? args[0] : "src/main/java/LemonGate.java")));
        D.end();
    }

    private static void face() {
        Set<String> names = new TreeSet<>(), constants = new TreeSet<>();
        for (Method m : LemonGate.class.getDeclaredMethods()) {
            D.due(m + " is public or private", Modifier.isPublic(m.getModifiers()) || Modifier.isPrivate(m.getModifiers()) ? 1 : 0, 1);
            if (Modifier.isPublic(m.getModifiers())) {
                D.due(m.getName() + " once", names.add(m.getName()) ? 1 : 0, 1);
                D.due(m + " throws nothing", m.getExceptionTypes().length, 0);
            }
        }
        D.due("the face", names.equals(new TreeSet<>(java.util.List.of(FACE))) ? 1 : 0, 1);
        for (Field f : LemonGate.class.getDeclaredFields()) {
            if (Modifier.isPublic(f.getModifiers())) {
                constants.add(f.getName());
            } else {
                D.due(f + " is private", Modifier.isPrivate(f.getModifiers()) ? 1 : 0, 1);
            }
        }
        D.due("constants", constants.equals(Set.of("BAD", "NOT", "FULL", "STATE", "VOID")) ? 1 : 0, 1);
        D.due("final", Modifier.isFinal(LemonGate.class.getModifiers()) ? 1 : 0, 1);
    }

    private static void classes() {
        Class<?>[] inside = LemonGate.class.getDeclaredClasses();
        D.due("some twelve classes", inside.length <= 12 ? 1 : 0, 1);
        for (Class<?> c : inside) {
            D.due(c + " is static", Modifier.isStatic(c.getModifiers()) ? 1 : 0, 1);
            D.due(c + " is not public", Modifier.isPublic(c.getModifiers()) || Modifier.isProtected(c.getModifiers()) ? 1 : 0, 0);
            fields(c);
            for (Method m : c.getDeclaredMethods()) {
                D.due(m + " has a name of its own", Set.of(FACE).contains(m.getName()) ? 1 : 0, 0);
                D.due(m + " takes at most seven", m.getParameterCount() <= 7 ? 1 : 0, 1);
            }
        }
        fields(LemonGate.class);
    }

    private static void fields(Class<?> c) {
        int own = 0;
        for (Field f : c.getDeclaredFields()) {
            if (Modifier.isStatic(f.getModifiers())) {
                D.due(f + " is final", Modifier.isFinal(f.getModifiers()) ? 1 : 0, 1);
            } else {
                own++;
            }
        }
        D.due(c + " has at most some twenty fields", own <= 20 ? 1 : 0, 1);
    }

    private static void source(String text) {
        String code = text.replaceAll("/\\*(?s:.*?)\\*/", "").replaceAll("//[^\n]*", "");
        String[] words = {"throw", "throws", "try", "catch", "synchronized", "assert", "package", "volatile", "Object", "Random",
            "Thread", "Exact", "System\\.(?!arraycopy)", "import (?!java\\.util\\.(Arrays|ArrayList|List|Iterator);)", "static \\{"};
        for (String word : words) {
            Matcher m = Pattern.compile("(?<!\\w)" + word + (word.endsWith(")") || word.endsWith("{") ? "" : "\\b")).matcher(code);
            D.due("the source holds " + word, m.find() ? 1 : 0, 0);
        }
        D.due("a lambda", code.contains("->") || code.contains("::") ? 1 : 0, 0);
        D.due("texts are of signs 1 to 127", code.chars().allMatch(c -> c < 128) ? 1 : 0, 1);
        int length = 0;
        for (String line : code.split("\n")) {
            boolean starts = line.matches("( {4}| {8})(?! )[^=;]*\\) \\{");
            length = starts ? 0 : length + 1;
            D.due("a method is short near " + line, line.matches("( {4}| {8})\\}") && length > 60 && line.startsWith("        ") ? 1 : 0, 0);
        }
    }
}
