import java.io.IOException;
import java.lang.reflect.Constructor;
import java.lang.reflect.Field;
import java.lang.reflect.Method;
import java.lang.reflect.Modifier;
import java.nio.file.Files;
import java.nio.file.Path;
import java.util.ArrayList;
import java.util.Arrays;
import java.util.LinkedHashMap;
import java.util.List;
import java.util.Map;
import java.util.Set;
import java.util.TreeMap;
import java.util.TreeSet;
import java.util.regex.Matcher;
import java.util.regex.Pattern;
import java.util.stream.Collectors;

/**
 * The public face is the document's, and nothing else can be seen (rules 1 and 5 of LANGUAGE.md); run in the project's
 * folder.
 */
public final class FaceTest {
    private static final Path DOCUMENT = Path.of("../shared/DOC.md");
    private static final Path PROGRAM = Path.of("src/main/java/RowsIntoPlane.java");
    private static final Pattern FACE = Pattern.compile("(?s)## The public face\\s+```java\n(.*?)```");
    private static final Pattern PROMISE = Pattern.compile("(?m)^## Promise (\\d+): ([^\n]*)\n\n`([^`]*)`: ");
    private static final int PROMISES = 29;
    private static final Due due = new Due();

    /** As the document says them: names of constants with their values, and heads of methods. */
    private static final Map<String, Integer> constants = new TreeMap<>();
    private static final List<String> heads = new ArrayList<>();

    public static void main(String[] args) throws IOException {
        String document = Files.readString(DOCUMENT);
        readFace(document);
        Class<?> face = RowsIntoPlane.class;
        due.is("public and final", face.getModifiers(), Modifier.PUBLIC | Modifier.FINAL);
        methods(face);
        fields(face);
        classes(face);
        Constructor<?>[] made = face.getDeclaredConstructors();
        due.is("constructors", made.length, 1);
        due.is("the constructor is public", made[0].getModifiers(), Modifier.PUBLIC);
        due.is("the constructor takes nothing", made[0].getParameterCount(), 0);
        due.is("the constructor throws nothing", made[0].getExceptionTypes().length, 0);
        headsAreInTheProgram();
        promisesAreOfTheFace(document);
        due.end("FaceTest");
    }

    private static void readFace(String document) {
        Matcher face = FACE.matcher(document);
        String text = face.find() ? face.group(1) : "";
        Matcher constant = Pattern.compile("(\\w+) = (-?\\d+)").matcher(text);
        while (constant.find()) {
            constants.put(constant.group(1), Integer.parseInt(constant.group(2)));
        }
        Matcher head = Pattern.compile("public ((int|long) \\w+\\([^)]*\\));").matcher(text);
        while (head.find()) {
            heads.add(head.group(1));
        }
        due.is("constants of the document", constants.size(), 5);
        due.is("methods of the document", heads.size(), PROMISES - 1);
    }

    /** Exactly as told, names of what they take with them. */
    private static void headsAreInTheProgram() throws IOException {
        String program = Files.readString(PROGRAM);
        for (String head : heads) {
            due.is(head + " is in the program", program.contains("\n    public " + head + " {\n") ? 1 : 0, 1);
        }
    }

    /** Promise 1 is the constructor's, the others are those of the methods in their order. */
    private static void promisesAreOfTheFace(String document) {
        Map<Integer, String> told = new LinkedHashMap<>();
        Matcher promise = PROMISE.matcher(document);
        while (promise.find()) {
            told.put(Integer.parseInt(promise.group(1)), promise.group(3));
        }
        due.is("promises", told.size(), PROMISES);
        for (int i = 1; i < PROMISES; i++) {
            String head = i <= heads.size() ? heads.get(i - 1) : "";
            due.is("promise " + (i + 1) + " is of " + head, head.equals(told.get(i + 1)) ? 1 : 0, 1);
        }
    }

    /** A head without the names of what it takes. */
    private static String withoutNames(String head) {
        return head.replaceAll("(int|long) \\w+(?=[,)])", "$1").replace(", ", ",");
    }

    private static String told(Method m) {
        String takes = Arrays.stream(m.getParameterTypes()).map(Class::getName).collect(Collectors.joining(","));
        return m.getReturnType().getName() + " " + m.getName() + "(" + takes + ")";
    }

    private static void methods(Class<?> face) {
        Set<String> open = new TreeSet<>();
        Set<String> openNames = new TreeSet<>();
        Set<String> hidden = new TreeSet<>();
        for (Method m : face.getDeclaredMethods()) {
            if (Modifier.isPublic(m.getModifiers())) {
                open.add(told(m));
                openNames.add(m.getName());
                due.is(m + " is public alone", m.getModifiers(), Modifier.PUBLIC);
                due.is(m + " throws nothing", m.getExceptionTypes().length, 0);
            } else {
                hidden.add(m.getName());
                due.is(m + " is private", m.getModifiers() & Modifier.PRIVATE, Modifier.PRIVATE);
            }
        }
        Set<String> want = heads.stream().map(FaceTest::withoutNames).collect(Collectors.toCollection(TreeSet::new));
        due.is("public methods " + open, open.equals(want) ? 1 : 0, 1);
        hidden.retainAll(openNames);
        due.is("private ones that bear the name of a public one " + hidden, hidden.size(), 0);
    }

    private static void fields(Class<?> face) {
        Set<String> open = new TreeSet<>();
        for (Field f : face.getDeclaredFields()) {
            if (!Modifier.isPrivate(f.getModifiers())) {
                open.add(f.getName());
                int want = Modifier.PUBLIC | Modifier.STATIC | Modifier.FINAL;
                due.is(f + " is public, static and final", f.getModifiers(), want);
            }
            staticOnesAreFinal(f);
        }
        due.is("constants " + open, open.equals(constants.keySet()) ? 1 : 0, 1);
        for (Map.Entry<String, Integer> constant : constants.entrySet()) {
            due.is(constant.getKey() + " as the document says", valueOf(face, constant.getKey()), constant.getValue());
        }
        due.is("NONE", RowsIntoPlane.NONE, -1);
        due.is("UNKNOWN", RowsIntoPlane.UNKNOWN, -101);
        due.is("OUTSIDE", RowsIntoPlane.OUTSIDE, -102);
        due.is("STATE", RowsIntoPlane.STATE, -103);
        due.is("FULL", RowsIntoPlane.FULL, -104);
    }

    private static long valueOf(Class<?> face, String constant) {
        try {
            Field f = face.getField(constant);
            return f.getType() == int.class ? f.getInt(null) : Long.MIN_VALUE;
        } catch (ReflectiveOperationException missing) {
            return Long.MIN_VALUE;
        }
    }

    private static void staticOnesAreFinal(Field f) {
        if (Modifier.isStatic(f.getModifiers())) {
            due.is(f + " is final", f.getModifiers() & Modifier.FINAL, Modifier.FINAL);
            due.is(f + " is a number", f.getType() == int.class || f.getType() == long.class ? 1 : 0, 1);
        }
    }

    private static void classes(Class<?> face) {
        due.is("no more than twelve classes", face.getDeclaredClasses().length < 12 ? 1 : 0, 1);
        for (Class<?> inside : face.getDeclaredClasses()) {
            int kinds = Modifier.PUBLIC | Modifier.PROTECTED | Modifier.STATIC;
            due.is(inside + " is static and cannot be seen", inside.getModifiers() & kinds, Modifier.STATIC);
            int own = 0;
            for (Field f : inside.getDeclaredFields()) {
                staticOnesAreFinal(f);
                own += Modifier.isStatic(f.getModifiers()) ? 0 : 1;
            }
            due.is(inside + " has no more than twenty fields", own <= 20 ? 1 : 0, 1);
        }
    }
}
