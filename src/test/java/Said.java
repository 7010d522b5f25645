import java.io.IOException;
import java.nio.file.Files;
import java.nio.file.Path;
import java.util.BitSet;
import java.util.HashMap;
import java.util.LinkedHashMap;
import java.util.Map;
import java.util.regex.Matcher;
import java.util.regex.Pattern;

/** Sentences of the document, each with answers of its own; at the end no word of it may be left out. */
final class Said {
    private static final Path DOCUMENT = Path.of("../shared/DOC.md");
    private static final Pattern PART = Pattern.compile("(?ms)^## ([^\n]*)\n(.*?)(?=^## |\\z)");
    private static final Pattern WORD = Pattern.compile("\\w+");
    /** What asks for no answer: the sum of all at the beginning, marks and headings, and a face that FaceTest compares. */
    private static final Pattern FREE = Pattern.compile("Rows into an aeroplane: .*? a price that rises until enough stay\\."
        + "|======== [123] |```(text)?|; what later calls answer is free\\."
        + "|Ahead of the calls [a-zA-Z`, ]+ the interface says: ---- (the cabin, people, calls|out, staying|what is told)\\."
        + "|^`(int |long )?\\w+\\([\\w ,]*\\)`: ");
    private static final String TERMS = "Terms";

    private final Map<String, String> parts = new LinkedHashMap<>();
    private final Map<String, BitSet> quoted = new HashMap<>();
    private final Due due = new Due();
    private String sentence = "";
    private int answers;

    Said() throws IOException {
        Matcher part = PART.matcher(Files.readString(DOCUMENT));
        while (part.find()) {
            String heading = part.group(1).replaceAll(":.*", "");
            // The first sentence on the cabin begins in one part and goes on in the other.
            String key = heading.equals("What it is") ? TERMS : heading;
            if (key.equals(TERMS) || key.startsWith("Promise")) {
                String text = part.group(2).replaceAll("\\s+", " ").trim();
                parts.merge(key, text, (first, more) -> first + " " + more);
            }
        }
    }

    /** From here on answers are those of this sentence of the terms. */
    void terms(String words) {
        begin(TERMS, words);
    }

    /** From here on answers are those of this sentence of a promise. */
    void promise(int number, String words) {
        begin("Promise " + number, words);
    }

    private void begin(String part, String words) {
        endSentence();
        sentence = part + ", \"" + words + "\"";
        String text = parts.getOrDefault(part, "");
        int at = text.indexOf(words);
        due.is(sentence + " is in the document", at >= 0 ? 1 : 0, 1);
        BitSet bits = quoted.computeIfAbsent(part, p -> new BitSet());
        while (at >= 0) {
            bits.set(at, at + words.length());
            at = text.indexOf(words, at + 1);
        }
    }

    private void endSentence() {
        if (!sentence.isEmpty()) {
            due.is(sentence + " has answers of its own", answers > 0 ? 1 : 0, 1);
        }
        answers = 0;
    }

    void is(String call, long got, long want) {
        answers++;
        due.is(sentence + ": " + call, got, want);
    }

    void isTrue(String what, boolean holds) {
        is(what, holds ? 1 : 0, 1);
    }

    /** Ends the test; each word of the document has to stand in a sentence that was tested. */
    void end(String name) {
        endSentence();
        due.is("parts of the document", parts.size(), 30);
        for (Map.Entry<String, String> part : parts.entrySet()) {
            allIsTested(part.getKey(), part.getValue());
        }
        due.end(name);
    }

    private void allIsTested(String part, String text) {
        BitSet bits = quoted.getOrDefault(part, new BitSet());
        Matcher free = FREE.matcher(text);
        while (free.find()) {
            due.is(part + ", \"" + free.group() + "\" is not quoted", bits.get(free.start(), free.end()).cardinality(), 0);
            bits.set(free.start(), free.end());
        }
        Matcher word = WORD.matcher(text);
        while (word.find()) {
            boolean isTested = bits.nextClearBit(word.start()) >= word.end();
            String near = text.substring(Math.max(0, word.start() - 40), Math.min(text.length(), word.end() + 20));
            due.is(part + ", near \"" + near + "\": tested", isTested ? 1 : 0, 1);
        }
    }
}
