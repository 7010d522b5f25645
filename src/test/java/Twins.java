import java.util.ArrayList;
import java.util.List;
import java.util.function.Consumer;
import java.util.function.ToLongFunction;
import java.util.stream.IntStream;

/** Objects of one history: one of them is refused a call, and then it must tell what one that was not asked tells. */
final class Twins {
    private static final int NONE = RowsIntoPlane.NONE;
    private static final int ALL_ARE_TRIED = 20, VIEWS = 3;

    /** A call of which one number is left open. */
    interface Ask {
        long of(RowsIntoPlane x, int v);
    }

    private final Said said;
    private final String name;
    private final Consumer<RowsIntoPlane> history;
    private final List<List<Long>> untouched = new ArrayList<>();

    Twins(Said said, String name, Consumer<RowsIntoPlane> history) {
        this.said = said;
        this.name = name;
        this.history = history;
    }

    RowsIntoPlane made() {
        RowsIntoPlane x = new RowsIntoPlane();
        history.accept(x);
        return x;
    }

    /** It is refused so, and it changes nothing. */
    void refuse(String call, ToLongFunction<RowsIntoPlane> ask, int refusal) {
        for (int view = 0; view < VIEWS; view++) {
            RowsIntoPlane x = made();
            said.is(name + ": " + call, ask.applyAsLong(x), refusal);
            if (untouched.size() == view) {
                untouched.add(toldBy(made(), view));
            }
            said.isTrue(name + ": " + call + " changes nothing", toldBy(x, view).equals(untouched.get(view)));
        }
    }

    /** From least to most it is answered; the next ones on both sides, and those far off, are refused so. */
    void bounds(String call, int least, int most, Ask ask, int refusal) {
        boolean all = most - least <= ALL_ARE_TRIED;
        int[] inside = all ? IntStream.rangeClosed(least, most).toArray() : new int[] {least, most};
        for (int v : inside) {
            said.isTrue(name + ": " + call + " of " + v + " is answered", ask.of(made(), v) >= NONE);
        }
        for (int v : new int[] {least - 1, Integer.MIN_VALUE}) {
            refuse(call + " of " + v, x -> ask.of(x, v), refusal);
        }
        if (most < Integer.MAX_VALUE) {
            for (int v : new int[] {most + 1, Integer.MAX_VALUE}) {
                refuse(call + " of " + v, x -> ask.of(x, v), refusal);
            }
        }
    }

    /**
     * What an object of any history can tell. Each view has an object of its own, for what one of them asks could
     * hide from another what was changed: PEOPLE and their IMAGE, KEYS of CALLS, THE PAGE as a CALL.
     */
    private static List<Long> toldBy(RowsIntoPlane x, int view) {
        List<Long> told = new ArrayList<>();
        if (view == 0) {
            tellState(x, told);
            told.add((long) x.bestOrder(0));
            told.add((long) x.restore());
        } else if (view == 1) {
            // Calls that were read without a cabin, or of nobody, are seen by the order of people who differ in all.
            told.add((long) x.cabin(12, 3, 1));
            for (int i = 0; i < 12; i++) {
                told.add((long) x.person(i % 3, NONE, i * 5 % 12, i % 2, (i + 2) % 3, i % 4, 10 * i));
            }
            told.add((long) x.restore());
        } else {
            told.add((long) x.fault());
            told.add((long) x.call());
        }
        tellState(x, told);
        return told;
    }

    private static void tellState(RowsIntoPlane x, List<Long> told) {
        told.add(x.digest());
        for (int what = 0; what <= 8; what++) {
            told.add((long) x.count(what));
        }
        for (int person = 0; person < 12; person++) {
            told.add((long) x.about(person, 5));
            told.add((long) x.about(person, 6));
        }
    }
}
