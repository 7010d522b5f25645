import java.io.IOException;
import java.nio.file.Files;
import java.nio.file.Path;
import java.util.HashMap;
import java.util.HashSet;
import java.util.Map;
import java.util.Set;
import java.util.regex.Matcher;
import java.util.regex.Pattern;

/** What can be seen of LANGUAGE.md in the program's text; run from the project's folder. */
public final class LanguageTest {
    private static final String[] FORBIDDEN = {
        "\\b(throw|throws|try|catch|finally|synchronized|assert|import|package|volatile|native|transient)\\b",
        "->", "::", "\\bnew\\s+\\w+\\s*\\([^)]*\\)\\s*\\{", "\\bstatic\\s*\\{", "\\w+Exact\\b",
        "\\b(System\\.(?!arraycopy)\\w+|Thread|Runtime|Random|Object|Class|Exception|Error)\\b",
        "\\b(hashCode|toString|getClass)\\b", "\\bwhile\\s*\\(\\s*true\\b", "\\bfor\\s*\\([^;]*;\\s*;"};
    private static final Pattern CALLED = Pattern.compile("\\b(Math|System)\\.\\w+\\(|\\b(\\w+)\\(");
    /** The library that the program uses, of all that rule 4 leaves. */
    private static final Set<String> LIBRARY = Set.of("Math.max", "Math.min", "Math.abs", "System.arraycopy");
    private static final int DEEPEST = 8, MOST_TAKEN = 7;
    private static final Due due = new Due();

    /** By the name of a method the names that it calls; methods of one name are taken as one, which can only be deeper. */
    private static final Map<String, Set<String>> called = new HashMap<>();

    public static void main(String[] args) throws IOException {
        String text = Files.readString(Path.of("src/main/java/RowsIntoPlane.java"));
        due.is("signs beyond 127", text.chars().filter(c -> c > 127).count(), 0);
        String code = text.replaceAll("(?s)/\\*.*?\\*/", " ").replaceAll("//[^\n]*", " ");
        for (String forbidden : FORBIDDEN) {
            Matcher found = Pattern.compile(forbidden).matcher(code);
            boolean has = found.find();
            due.is("found " + forbidden + (has ? ": " + found.group() : ""), has ? 1 : 0, 0);
        }
        due.is("texts joined", Pattern.compile("\"\\s*\\+|\\+\\s*\"").matcher(code).find() ? 1 : 0, 0);
        namesAreItsOwn(code);
        methodsAreShort(text);
        callsAreNotDeep();
        due.end("LanguageTest");
    }

    /** Rules 3 and 4: a name that begins as a class's does is one of its own, or of the library that is left. */
    private static void namesAreItsOwn(String code) {
        Set<String> own = new HashSet<>();
        Matcher declared = Pattern.compile("\\bclass (\\w+)").matcher(code);
        while (declared.find()) {
            own.add(declared.group(1));
        }
        due.is("the class was found", own.contains("RowsIntoPlane") ? 1 : 0, 1);
        Matcher name = Pattern.compile("\\b([A-Z]\\w*[a-z]\\w*)(\\.\\w+)?").matcher(code);
        while (name.find()) {
            boolean isLeft = own.contains(name.group(1)) || LIBRARY.contains(name.group());
            due.is(name.group() + " is its own or the library's", isLeft ? 1 : 0, 1);
        }
    }

    /** Some sixty lines at most, from the line that opens a method to the one that closes it. */
    private static void methodsAreShort(String text) {
        String[] lines = text.split("\n");
        int seen = 0;
        for (int i = 0; i < lines.length; i++) {
            Matcher head = Pattern.compile("^( {4}| {8})(?!if|for|while|switch|else)\\w[\\w<>\\[\\] ]*\\(.*\\{$")
                .matcher(lines[i]);
            if (!head.find()) {
                continue;
            }
            int end = i;
            while (end < lines.length - 1 && !lines[end].equals(head.group(1) + "}")) {
                end++;
            }
            seen++;
            due.is("the method of line " + (i + 1) + " is short", end - i < 60 ? 1 : 0, 1);
            int taken = lines[i].contains("()") ? 0 : lines[i].split(",").length;
            due.is("the method of line " + (i + 1) + " takes no more than seven", taken <= MOST_TAKEN ? 1 : 0, 1);
            noteCalls(lines, i, end);
            if (!lines[i].matches(" *(public )?[A-Z]\\w*\\(.*")) {
                makesNothing(lines, i, end);
            }
        }
        due.is("methods were found", seen > 28 ? 1 : 0, 1);
    }

    /** All is made with the object: however many calls there are, they take no more room. */
    private static void makesNothing(String[] lines, int head, int end) {
        for (int i = head + 1; i < end; i++) {
            boolean makes = lines[i].replaceAll("//.*", "").matches(".*\\b(new|clone|copyOf\\w*)\\b.*");
            due.is("line " + (i + 1) + " makes no object", makes ? 1 : 0, 0);
        }
    }

    private static void noteCalls(String[] lines, int head, int end) {
        String name = lines[head].replaceAll("\\(.*", "").replaceAll(".*\\W", "");
        Set<String> names = called.computeIfAbsent(name, n -> new HashSet<>());
        for (int i = head + 1; i < end; i++) {
            Matcher found = CALLED.matcher(lines[i].replaceAll("//.*", ""));
            while (found.find()) {
                names.add(found.group(1) != null ? found.group(1) : found.group(2));
            }
        }
    }

    /** Eight at most stand open at once, the library's own with them; the program has no recursion. */
    private static void callsAreNotDeep() {
        called.put("Math", Set.of());
        called.put("System", Set.of());
        for (String name : called.keySet()) {
            due.is("calls from " + name + " are not deep", deepest(name, 1) <= DEEPEST ? 1 : 0, 1);
        }
        due.is("what digest() calls was seen", deepest("digest", 1) > 4 ? 1 : 0, 1);
    }

    private static int deepest(String name, int level) {
        int most = level;
        if (level <= DEEPEST) {
            for (String next : called.get(name)) {
                if (called.containsKey(next)) {
                    most = Math.max(most, deepest(next, level + 1));
                }
            }
        }
        return most;
    }
}
