import java.lang.reflect.Constructor;
import java.lang.reflect.Field;
import java.lang.reflect.Method;
import java.lang.reflect.Modifier;
import java.util.Arrays;
import java.util.Set;
import java.util.TreeSet;
import java.util.stream.Collectors;

/** The public face is the document's, and nothing else can be seen (rules 1 and 5 of LANGUAGE.md). */
public final class FaceTest {
    private static final String[] FACE = {
        "int cabin(int,int,int)", "int person(int,int,int,int,int,int,int)", "int as(int,int)", "int about(int,int)",
        "int change(int,int,int)", "int letters(long)", "int blank()", "int fault()", "int call()",
        "int order(int,int)", "int board(int,int)", "int sits(int,int,int)", "int stands(int,int,int)",
        "int least()", "int bestOrder(int)", "int swap(int)", "int later(int,int)", "int bound(int,int)",
        "int doors(int)", "int mixed(int,int,int)", "int out(int)", "int outOf(int,int)", "int missed(int)",
        "int stay(int,int,int)", "int image()", "int restore()", "int count(int)", "long digest()"};
    private static final Due due = new Due();

    public static void main(String[] args) {
        Class<?> face = RowsIntoPlane.class;
        due.is("public and final", face.getModifiers(), Modifier.PUBLIC | Modifier.FINAL);
        methods(face);
        fields(face);
        classes(face);
        Constructor<?>[] made = face.getDeclaredConstructors();
        due.is("constructors", made.length, 1);
        due.is("the constructor is public", made[0].getModifiers(), Modifier.PUBLIC);
        due.is("the constructor takes nothing", made[0].getParameterCount(), 0);
        due.end("FaceTest");
    }

    private static String told(Method m) {
        String takes = Arrays.stream(m.getParameterTypes()).map(Class::getName).collect(Collectors.joining(","));
        return m.getReturnType().getName() + " " + m.getName() + "(" + takes + ")";
    }

    private static void methods(Class<?> face) {
        Set<String> open = new TreeSet<>();
        Set<String> openNames = new TreeSet<>();
        Set<String> hidden = new TreeSet<>();
        for (Method m : face.getDeclaredMethods()) {
            if (Modifier.isPublic(m.getModifiers())) {
                open.add(told(m));
                openNames.add(m.getName());
                due.is(m + " is public alone", m.getModifiers(), Modifier.PUBLIC);
            } else {
                hidden.add(m.getName());
                due.is(m + " is private", m.getModifiers() & Modifier.PRIVATE, Modifier.PRIVATE);
            }
        }
        Set<String> want = new TreeSet<>(Arrays.asList(FACE));
        due.is("public methods " + open, open.equals(want) ? 1 : 0, 1);
        hidden.retainAll(openNames);
        due.is("private ones that bear the name of a public one " + hidden, hidden.size(), 0);
    }

    private static void fields(Class<?> face) {
        Set<String> open = new TreeSet<>();
        for (Field f : face.getDeclaredFields()) {
            if (!Modifier.isPrivate(f.getModifiers())) {
                open.add(f.getName());
                int want = Modifier.PUBLIC | Modifier.STATIC | Modifier.FINAL;
                due.is(f + " is public, static and final", f.getModifiers(), want);
            }
            staticOnesAreFinal(f);
        }
        due.is("constants " + open, open.equals(Set.of("NONE", "UNKNOWN", "OUTSIDE", "STATE", "FULL")) ? 1 : 0, 1);
        due.is("NONE", RowsIntoPlane.NONE, -1);
        due.is("UNKNOWN", RowsIntoPlane.UNKNOWN, -101);
        due.is("OUTSIDE", RowsIntoPlane.OUTSIDE, -102);
        due.is("STATE", RowsIntoPlane.STATE, -103);
        due.is("FULL", RowsIntoPlane.FULL, -104);
    }

    private static void staticOnesAreFinal(Field f) {
        if (Modifier.isStatic(f.getModifiers())) {
            due.is(f + " is final", f.getModifiers() & Modifier.FINAL, Modifier.FINAL);
        }
    }

    private static void classes(Class<?> face) {
        due.is("no more than twelve classes", face.getDeclaredClasses().length < 12 ? 1 : 0, 1);
        for (Class<?> inside : face.getDeclaredClasses()) {
            int kinds = Modifier.PUBLIC | Modifier.PROTECTED | Modifier.STATIC;
            due.is(inside + " is static and cannot be seen", inside.getModifiers() & kinds, Modifier.STATIC);
            int own = 0;
            for (Field f : inside.getDeclaredFields()) {
                staticOnesAreFinal(f);
                own += Modifier.isStatic(f.getModifiers()) ? 0 : 1;
            }
            due.is(inside + " has no more than twenty fields", own <= 20 ? 1 : 0, 1);
        }
    }
}
