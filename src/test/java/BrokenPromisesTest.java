import java.io.IOException;
import java.io.OutputStream;
import java.io.PrintStream;
import java.lang.reflect.Field;
import java.lang.reflect.InvocationTargetException;
import java.net.MalformedURLException;
import java.net.URL;
import java.net.URLClassLoader;
import java.nio.file.Files;
import java.nio.file.Path;
import java.util.ArrayList;
import java.util.Comparator;
import java.util.LinkedHashSet;
import java.util.List;
import java.util.Set;
import java.util.regex.Matcher;
import java.util.regex.Pattern;
import java.util.stream.Stream;
import javax.tools.ToolProvider;

/**
 * All promises: for each of them a test fails if it is broken, in each of several ways (Broken has them); run in the
 * project's folder.
 */
public final class BrokenPromisesTest {
    private static final Path DOCUMENT = Path.of("../shared/DOC.md");
    private static final Path PROGRAM = Path.of("src/main/java/RowsIntoPlane.java");
    private static final Path BROKEN = Path.of("src/test/java/Broken.java");
    private static final Pattern PROMISE = Pattern.compile("(?ms)^## Promise (\\d+):[^\n]*\n(.*?)(?=^## )");
    private static final Pattern OWN_WAY = Pattern.compile("is\\((\\d+), \"([^\"]+)\"\\)");
    private static final int PROMISES = 29, COUNTS = 9;
    private static final String ALL_OF_THEM = "SentencesTest";
    private static final Due due = new Due();

    /** A promise, and how it is broken. */
    private record Way(int promise, String how) {
    }

    private final Path made;

    private BrokenPromisesTest(Path folder) {
        made = folder;
    }

    public static void main(String[] args) throws IOException {
        Path folder = Files.createTempDirectory("broken");
        PrintStream out = System.out;
        try {
            BrokenPromisesTest test = new BrokenPromisesTest(folder);
            test.compile();
            // What a test prints when it fails is of no use here.
            System.setOut(new PrintStream(OutputStream.nullOutputStream()));
            List<Way> kept = Stream.of(1, 7, 12, 16, 22, 26).map(p -> new Way(p, "in no way")).toList();
            List<Way> failing = kept.parallelStream().filter(test::isFound).toList();
            Set<Way> ways = ways();
            List<Way> passing = ways.parallelStream().filter(way -> !test.isFound(way)).toList();
            System.setOut(out);
            for (Way way : kept) {
                due.is("a test of promise " + way.promise + " fails, broken " + way.how, failing.contains(way) ? 1 : 0, 0);
            }
            for (Way way : ways) {
                due.is("a test fails, if promise " + way.promise + " is broken: " + way.how, passing.contains(way) ? 0 : 1, 1);
            }
        } finally {
            System.setOut(out);
            remove(folder);
        }
        due.end("BrokenPromisesTest");
    }

    /** Ways for all: by the refusals that the document names for it; and those of one promise alone. */
    private static Set<Way> ways() throws IOException {
        Set<Way> ways = new LinkedHashSet<>();
        Matcher promise = PROMISE.matcher(Files.readString(DOCUMENT));
        while (promise.find()) {
            int number = Integer.parseInt(promise.group(1));
            if (number > 1) {
                ways.add(new Way(number, "an answer is one more"));
                addRefusals(ways, number, promise.group(2));
            }
        }
        Matcher own = OWN_WAY.matcher(Files.readString(BROKEN));
        while (own.find()) {
            ways.add(new Way(Integer.parseInt(own.group(1)), own.group(2)));
        }
        for (int what = 0; what < COUNTS; what++) {
            ways.add(new Way(28, what + " is one more"));
        }
        for (int i = 1; i <= PROMISES; i++) {
            int number = i;
            due.is("ways to break promise " + number, ways.stream().anyMatch(way -> way.promise == number) ? 1 : 0, 1);
        }
        return ways;
    }

    private static void addRefusals(Set<Way> ways, int number, String text) {
        for (String refusal : new String[] {"UNKNOWN", "OUTSIDE", "STATE", "FULL"}) {
            if (text.contains(refusal)) {
                ways.add(new Way(number, refusal + " is another refusal"));
                ways.add(new Way(number, refusal + " is not refused"));
                ways.add(new Way(number, "a refusal changes something"));
            }
        }
        // person() takes NONE, but it does not answer it.
        if (text.contains("NONE") && number != 3) {
            ways.add(new Way(number, "NONE is 0"));
        }
    }

    /** The program is named Whole here, and the class that breaks its promises has the program's name. */
    private void compile() throws IOException {
        Path whole = made.resolve("Whole.java");
        Path broken = made.resolve("RowsIntoPlane.java");
        Files.writeString(whole, asWhole(PROGRAM));
        Files.writeString(broken, asWhole(BROKEN).replaceAll("\\bBroken\\b", "RowsIntoPlane"));
        int failed = ToolProvider.getSystemJavaCompiler().run(null, null, null, "-d", made.toString(), "-cp",
            made.toString(), whole.toString(), broken.toString());
        due.is("the class that breaks promises compiles", failed, 0);
    }

    private static String asWhole(Path source) throws IOException {
        return Files.readString(source).replaceAll("\\bRowsIntoPlane\\b", "Whole");
    }

    /** Does the promise's own test fail, or the one of all sentences? */
    private boolean isFound(Way way) {
        return fails(testOf(way.promise), way) || fails(ALL_OF_THEM, way);
    }

    private static String testOf(int promise) {
        if (promise <= 6) {
            return "CabinAndPeopleTest";
        }
        if (promise <= 11) {
            return "CallsTest";
        }
        if (promise == 16 || promise == 17 || promise == 21) {
            return "OrdersTest";
        }
        if (promise <= 20) {
            return "BoardingTest";
        }
        return promise <= 25 ? "LeavingTest" : "ToldTest";
    }

    private boolean fails(String test, Way way) {
        try (URLClassLoader loader = new URLClassLoader(places(), ClassLoader.getPlatformClassLoader())) {
            set(loader, "Due", "isTried", true);
            set(loader, "RowsIntoPlane", "promise", way.promise);
            set(loader, "RowsIntoPlane", "how", way.how);
            loader.loadClass(test).getMethod("main", String[].class).invoke(null, (Object) new String[0]);
            return false;
        } catch (InvocationTargetException wrong) {
            return true;
        } catch (ReflectiveOperationException | IOException missing) {
            throw new IllegalStateException(missing);
        }
    }

    /** The broken class ahead of the program itself. */
    private URL[] places() throws MalformedURLException {
        List<URL> places = new ArrayList<>();
        places.add(made.toUri().toURL());
        for (String place : System.getProperty("java.class.path").split(System.getProperty("path.separator"))) {
            places.add(Path.of(place).toUri().toURL());
        }
        return places.toArray(new URL[0]);
    }

    private static void set(ClassLoader loader, String ofClass, String name, Object v) throws ReflectiveOperationException {
        Field field = loader.loadClass(ofClass).getDeclaredField(name);
        field.setAccessible(true);
        field.set(null, v);
    }

    private static void remove(Path folder) throws IOException {
        try (Stream<Path> all = Files.walk(folder)) {
            for (Path path : all.sorted(Comparator.reverseOrder()).toList()) {
                Files.delete(path);
            }
        }
    }
}
