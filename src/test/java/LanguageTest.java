import java.io.IOException;
import java.nio.file.Files;
import java.nio.file.Path;
import java.util.regex.Matcher;
import java.util.regex.Pattern;

/** What can be seen of LANGUAGE.md in the program's text; run from the project's folder. */
public final class LanguageTest {
    private static final String[] FORBIDDEN = {
        "\\b(throw|throws|try|catch|finally|synchronized|assert|import|package|volatile|native|transient)\\b",
        "->", "::", "\\bnew\\s+\\w+\\s*\\([^)]*\\)\\s*\\{", "\\bstatic\\s*\\{", "\\w+Exact\\b",
        "\\b(System\\.(?!arraycopy)\\w+|Thread|Runtime|Random|Object|Class|Exception|Error)\\b",
        "\\b(hashCode|toString|getClass)\\b", "\\bwhile\\s*\\(\\s*true\\b", "\\bfor\\s*\\([^;]*;\\s*;"};
    private static final Due due = new Due();

    public static void main(String[] args) throws IOException {
        String text = Files.readString(Path.of("src/main/java/RowsIntoPlane.java"));
        due.is("signs beyond 127", text.chars().filter(c -> c > 127).count(), 0);
        String code = text.replaceAll("(?s)/\\*.*?\\*/", " ").replaceAll("//[^\n]*", " ");
        for (String forbidden : FORBIDDEN) {
            Matcher found = Pattern.compile(forbidden).matcher(code);
            boolean has = found.find();
            due.is("found " + forbidden + (has ? ": " + found.group() : ""), has ? 1 : 0, 0);
        }
        due.is("texts joined", Pattern.compile("\"\\s*\\+|\\+\\s*\"").matcher(code).find() ? 1 : 0, 0);
        methodsAreShort(text);
        due.end("LanguageTest");
    }

    /** Some sixty lines at most, from the line that opens a method to the one that closes it. */
    private static void methodsAreShort(String text) {
        String[] lines = text.split("\n");
        int seen = 0;
        for (int i = 0; i < lines.length; i++) {
            Matcher head = Pattern.compile("^( {4}| {8})(?!if|for|while|switch|else)\\w[\\w<>\\[\\] ]*\\(.*\\{$")
                .matcher(lines[i]);
            if (!head.find()) {
                continue;
            }
            int end = i;
            while (end < lines.length - 1 && !lines[end].equals(head.group(1) + "}")) {
                end++;
            }
            seen++;
            due.is("the method of line " + (i + 1) + " is short", end - i < 60 ? 1 : 0, 1);
        }
        due.is("methods were found", seen > 28 ? 1 : 0, 1);
    }
}
