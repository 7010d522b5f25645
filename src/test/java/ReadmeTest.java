import java.io.IOException;
import java.lang.reflect.Field;
import java.lang.reflect.Modifier;
import java.nio.file.Files;
import java.nio.file.Path;
import java.util.ArrayList;
import java.util.Arrays;
import java.util.Comparator;
import java.util.List;
import java.util.regex.Matcher;
import java.util.regex.Pattern;
import java.util.stream.Stream;

/** What README.md shows compiles and answers as it says, and it leaves out nothing; run in the project's folder. */
public final class ReadmeTest {
    private static final Path DOCUMENT = Path.of("../shared/DOC.md");
    private static final Pattern BLOCK = Pattern.compile("(?ms)^```(\\w+)\n(.*?)^```$");
    private static final Pattern SAID = Pattern.compile("(?m)^ *say\\((x\\..*)\\); *// (-?\\d+)\\b");
    private static final Pattern HEAD = Pattern.compile("public (?:int|long) (\\w+\\([^)]*\\));");
    private static final String ALL_TESTS = ".ci/run\n";
    private static final Due due = new Due();

    private final String readme;
    private final Path folder;

    private ReadmeTest(String readme, Path folder) {
        this.readme = readme;
        this.folder = folder;
    }

    public static void main(String[] args) throws IOException, InterruptedException, ReflectiveOperationException {
        Path folder = Files.createTempDirectory("readme");
        try {
            ReadmeTest test = new ReadmeTest(Files.readString(Path.of("README.md")), folder);
            test.copySources();
            test.runBlocks();
            test.constantsAreTold();
            test.callsAreTold();
            test.testsAreTold();
        } finally {
            remove(folder);
        }
        due.end("ReadmeTest");
    }

    private void copySources() throws IOException {
        try (Stream<Path> all = Files.walk(Path.of("src"))) {
            for (Path path : all.toList()) {
                Files.copy(path, folder.resolve(path));
            }
        }
    }

    /** The program it shows is written down, and what it says is to be run is run, in a folder like the project's. */
    private void runBlocks() throws IOException, InterruptedException {
        String example = "";
        int runs = 0;
        Matcher block = BLOCK.matcher(readme);
        while (block.find()) {
            String text = block.group(2);
            if (block.group(1).equals("java")) {
                example = text;
                Files.writeString(folder.resolve("Example.java"), text);
            } else if (text.equals(ALL_TESTS)) {
                due.is("all tests can be run so", Files.isExecutable(Path.of(text.trim())) ? 1 : 0, 1);
                runs++;
            } else {
                List<String> printed = run(text);
                if (text.contains("Example")) {
                    compare(example, printed);
                }
                runs++;
            }
        }
        due.is("what is to be run", runs, 3);
    }

    private List<String> run(String commands) throws IOException, InterruptedException {
        Path printed = folder.resolve("printed");
        Process process = new ProcessBuilder("sh", "-e", "-c", commands).directory(folder.toFile())
            .redirectErrorStream(true).redirectOutput(printed.toFile()).start();
        int code = process.waitFor();
        List<String> lines = Files.readAllLines(printed);
        due.is(commands.trim() + " ends well " + (code == 0 ? "" : lines), code, 0);
        return lines;
    }

    /** The number behind each call in the example is what it prints there. */
    private static void compare(String example, List<String> printed) {
        List<String[]> said = new ArrayList<>();
        Matcher line = SAID.matcher(example);
        while (line.find()) {
            said.add(new String[] {line.group(1), line.group(2)});
        }
        due.is("answers are told of all calls", said.size(), example.lines().filter(s -> s.contains("say(x.")).count());
        due.is("answers are told", said.size() > 0 ? 1 : 0, 1);
        due.is("answers are printed " + printed, printed.size(), said.size());
        for (int i = 0; i < Math.min(said.size(), printed.size()); i++) {
            boolean isSo = printed.get(i).equals(said.get(i)[1]);
            due.is(said.get(i)[0] + " is " + said.get(i)[1] + ", printed is " + printed.get(i), isSo ? 1 : 0, 1);
        }
    }

    private void has(String what) {
        due.is("README.md has " + what, readme.contains(what) ? 1 : 0, 1);
    }

    private void constantsAreTold() throws ReflectiveOperationException {
        for (Field f : RowsIntoPlane.class.getDeclaredFields()) {
            if (Modifier.isPublic(f.getModifiers())) {
                has("| `" + f.getName() + "` | " + f.getInt(null) + " |");
            }
        }
        has("512 calls");
        has("A refused call changes nothing.");
    }

    private void callsAreTold() throws IOException {
        Matcher head = HEAD.matcher(Files.readString(DOCUMENT));
        int found = 0;
        while (head.find()) {
            has("\n| `" + head.group(1).replaceAll("(int|long) ", "") + "` |");
            found++;
        }
        due.is("calls of the document", found, 28);
    }

    private void testsAreTold() {
        String[] tests = Path.of("src/test/java").toFile().list((in, name) -> name.endsWith("Test.java"));
        due.is("tests are found", tests == null ? 0 : 1, 1);
        for (String test : tests == null ? new String[0] : tests) {
            String name = "`" + test.replace(".java", "") + "`";
            long lines = Arrays.stream(readme.split("\n")).filter(s -> s.startsWith("| `") && s.contains(name)).count();
            due.is("lines of the table with " + name, lines, 1);
        }
        Matcher named = Pattern.compile("`(\\w+(?:Test|Sentences))`").matcher(readme);
        while (named.find()) {
            boolean isThere = Files.exists(Path.of("src/test/java", named.group(1) + ".java"));
            due.is(named.group(1) + " is there", isThere ? 1 : 0, 1);
        }
    }

    private static void remove(Path folder) throws IOException {
        try (Stream<Path> all = Files.walk(folder)) {
            for (Path path : all.sorted(Comparator.reverseOrder()).toList()) {
                Files.delete(path);
            }
        }
    }
}
