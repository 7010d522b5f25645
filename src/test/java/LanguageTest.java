import java.io.IOException;
import java.nio.file.Files;
import java.nio.file.Path;
import java.util.HashMap;
import java.util.HashSet;
import java.util.Map;
import java.util.Set;
import java.util.regex.Matcher;
import java.util.regex.Pattern;

/** What can be seen of LANGUAGE.md in the program's text; run from the project's folder. */
public final class LanguageTest {
    private static final String[] FORBIDDEN = {
        "\\b(throw|throws|try|catch|finally|synchronized|assert|import|package|volatile|native|transient)\\b",
        "->", "::", "\\bnew\\s+\\w+\\s*\\([^)]*\\)\\s*\\{", "\\bstatic\\s*\\{", "\\w+Exact\\b",
        "\\b(System\\.(?!arraycopy)\\w+|Thread|Runtime|Random|Object|Class|Exception|Error)\\b",
        "\\b(hashCode|toString|getClass)\\b", "\\bwhile\\s*\\(\\s*true\\b", "\\bfor\\s*\\([^;]*;\\s*;"};
    private static final Pattern CALLED = Pattern.compile("\\b(Math|System)\\.\\w+\\(|\\b(\\w+)\\(");
    private static final int DEEPEST = 8;
    private static final Due due = new Due();

    /** By the name of a method the names that it calls; methods of one name are taken as one, which can only be deeper. */
    private static final Map<String, Set<String>> called = new HashMap<>();

    public static void main(String[] args) throws IOException {
        String text = Files.readString(Path.of("src/main/java/RowsIntoPlane.java"));
        due.is("signs beyond 127", text.chars().filter(c -> c > 127).count(), 0);
        String code = text.replaceAll("(?s)/\\*.*?\\*/", " ").replaceAll("//[^\n]*", " ");
        for (String forbidden : FORBIDDEN) {
            Matcher found = Pattern.compile(forbidden).matcher(code);
            boolean has = found.find();
            due.is("found " + forbidden + (has ? ": " + found.group() : ""), has ? 1 : 0, 0);
        }
        due.is("texts joined", Pattern.compile("\"\\s*\\+|\\+\\s*\"").matcher(code).find() ? 1 : 0, 0);
        methodsAreShort(text);
        callsAreNotDeep();
        due.end("LanguageTest");
    }

    /** Some sixty lines at most, from the line that opens a method to the one that closes it. */
    private static void methodsAreShort(String text) {
        String[] lines = text.split("\n");
        int seen = 0;
        for (int i = 0; i < lines.length; i++) {
            Matcher head = Pattern.compile("^( {4}| {8})(?!if|for|while|switch|else)\\w[\\w<>\\[\\] ]*\\(.*\\{$")
                .matcher(lines[i]);
            if (!head.find()) {
                continue;
            }
            int end = i;
            while (end < lines.length - 1 && !lines[end].equals(head.group(1) + "}")) {
                end++;
            }
            seen++;
            due.is("the method of line " + (i + 1) + " is short", end - i < 60 ? 1 : 0, 1);
            noteCalls(lines, i, end);
        }
        due.is("methods were found", seen > 28 ? 1 : 0, 1);
    }

    private static void noteCalls(String[] lines, int head, int end) {
        String name = lines[head].replaceAll("\\(.*", "").replaceAll(".*\\W", "");
        Set<String> names = called.computeIfAbsent(name, n -> new HashSet<>());
        for (int i = head + 1; i < end; i++) {
            Matcher found = CALLED.matcher(lines[i].replaceAll("//.*", ""));
            while (found.find()) {
                names.add(found.group(1) != null ? found.group(1) : found.group(2));
            }
        }
    }

    /** Eight at most stand open at once, the library's own with them; the program has no recursion. */
    private static void callsAreNotDeep() {
        called.put("Math", Set.of());
        called.put("System", Set.of());
        for (String name : called.keySet()) {
            due.is("calls from " + name + " are not deep", deepest(name, 1) <= DEEPEST ? 1 : 0, 1);
        }
        due.is("what digest() calls was seen", deepest("digest", 1) > 4 ? 1 : 0, 1);
    }

    private static int deepest(String name, int level) {
        int most = level;
        if (level <= DEEPEST) {
            for (String next : called.get(name)) {
                if (called.containsKey(next)) {
                    most = Math.max(most, deepest(next, level + 1));
                }
            }
        }
        return most;
    }
}
