import java.util.Arrays;
import java.util.Random;

/** All promises: runs of 512 random calls, right and wrong ones, against the document written once more. */
public final class RandomRunsTest {
    private static final String[] CALLS = {"cabin", "person", "as", "about", "change", "letters", "blank", "fault",
        "call", "order", "board", "sits", "stands", "least", "bestOrder", "swap", "later", "bound", "doors", "mixed",
        "out", "outOf", "missed", "stay", "image", "restore", "count", "digest"};
    private static final int[] MANY = {3, 7, 2, 2, 3, 1, 0, 0, 0, 2, 2, 3, 3, 0, 1, 1, 2, 2, 1, 3, 1, 2, 1, 3, 0, 0, 1, 0};
    private static final String[] TEXTS = {"b1", "b3,w", "f2", "w,a", "s,o", "g", "g,b9", "o,s,w,f1", "b", "w,", "x",
        "w,w,w,w,", "b0", "a,g", "f9,b2,g", "s"};
    private static final int[] EDGES = {-1, Integer.MIN_VALUE, Integer.MAX_VALUE, 100, 1000, -2, 12, 13};
    private static final Due due = new Due();

    private final Random random;
    private final RowsIntoPlane x = new RowsIntoPlane();
    private final PlainPlane plain = new PlainPlane();
    private final String run;

    private RandomRunsTest(int seed) {
        random = new Random(seed);
        run = "run " + seed;
    }

    public static void main(String[] args) {
        int runs = args.length > 0 ? Integer.parseInt(args[0]) : 100;
        for (int seed = 0; seed < runs; seed++) {
            new RandomRunsTest(seed).run();
        }
        due.end("RandomRunsTest");
    }

    private void run() {
        // Some runs begin without a cabin, and some come to have a second one late.
        boolean early = random.nextInt(6) > 0;
        boolean full = random.nextBoolean();
        int asked = 0;
        if (early) {
            asked += ask("cabin", 2 + random.nextInt(11), 1 + random.nextInt(3), random.nextInt(7));
            for (int i = 0; i < (full ? 16 : 4); i++) {
                asked += ask("person", arguments("person", 0));
            }
        }
        for (int i = 0; i < 3; i++) {
            asked += ask("letters", Due.bytes(TEXTS[random.nextInt(8)]));
            asked += ask("call");
        }
        while (asked < 512) {
            int which = random.nextInt(CALLS.length);
            if (CALLS[which].equals("cabin") && random.nextInt(8) > 0) {
                which = 1;
            }
            asked += ask(CALLS[which], arguments(CALLS[which], 12));
        }
    }

    /** Mostly right ones; about one of so many is wrong (0: none). */
    private long[] arguments(String call, int wrong) {
        long[] a = new long[MANY[Arrays.asList(CALLS).indexOf(call)]];
        int rows = Math.max(1, x.count(0));
        int wide = Math.max(2, x.count(1)) / 2 / rows;
        int people = Math.max(1, x.count(3));
        int calls = Math.max(1, x.count(4));
        int[] below;
        switch (call) {
            case "cabin": below = new int[] {14, 4, 7}; break;
            case "person": below = new int[] {4, people, rows, 2, Math.max(1, wide), 4, 1000}; break;
            case "as": below = new int[] {people, 4}; break;
            case "about": below = new int[] {people, 7}; break;
            case "change": below = new int[] {people, 7, 4}; break;
            case "order": below = new int[] {calls, 12}; break;
            case "board": below = new int[] {calls, 3}; break;
            case "sits": below = new int[] {calls, people, 5}; break;
            case "stands": below = new int[] {calls, 80, rows}; break;
            case "bestOrder": below = new int[] {7}; break;
            case "later": below = new int[] {calls, people}; break;
            case "bound": below = new int[] {calls, 4}; break;
            case "mixed": below = new int[] {10, Integer.MAX_VALUE, 3}; break;
            case "outOf": below = new int[] {people, 3}; break;
            case "out":
            case "missed": below = new int[] {3}; break;
            case "stay": below = new int[] {people + 1, 100, 2}; break;
            case "count": below = new int[] {9}; break;
            default: below = new int[] {calls}; break;
        }
        for (int i = 0; i < a.length; i++) {
            a[i] = random.nextInt(below[i]);
        }
        if (call.equals("person") && a[0] != 3) {
            a[1] = -1;
        }
        if (call.equals("person") && random.nextBoolean()) {
            a[6] = random.nextInt(40);
        }
        if (call.equals("change") && random.nextBoolean()) {
            a[1] = 5 + random.nextInt(2);
        }
        if (call.equals("letters")) {
            a[0] = random.nextInt(9) == 0 ? random.nextLong() : Due.bytes(TEXTS[random.nextInt(TEXTS.length)]);
        } else if (wrong > 0 && a.length > 0 && random.nextInt(wrong) == 0) {
            a[random.nextInt(a.length)] = EDGES[random.nextInt(EDGES.length)];
        }
        return a;
    }

    private int ask(String call, long... a) {
        // Fewer of the dearest call, for the plain one makes all its orders anew.
        if (call.equals("bestOrder") && random.nextInt(10) > 0 && x.count(3) > 4) {
            return 0;
        }
        due.is(run + ": " + call + Arrays.toString(a), answer(call, a), plain.answer(call, a));
        return 1;
    }

    private long answer(String call, long[] a) {
        int[] v = new int[7];
        for (int i = 0; i < a.length; i++) {
            v[i] = (int) a[i];
        }
        switch (call) {
            case "cabin": return x.cabin(v[0], v[1], v[2]);
            case "person": return x.person(v[0], v[1], v[2], v[3], v[4], v[5], v[6]);
            case "as": return x.as(v[0], v[1]);
            case "about": return x.about(v[0], v[1]);
            case "change": return x.change(v[0], v[1], v[2]);
            case "letters": return x.letters(a[0]);
            case "blank": return x.blank();
            case "fault": return x.fault();
            case "call": return x.call();
            case "order": return x.order(v[0], v[1]);
            case "board": return x.board(v[0], v[1]);
            case "sits": return x.sits(v[0], v[1], v[2]);
            case "stands": return x.stands(v[0], v[1], v[2]);
            case "least": return x.least();
            case "bestOrder": return x.bestOrder(v[0]);
            case "swap": return x.swap(v[0]);
            case "later": return x.later(v[0], v[1]);
            case "bound": return x.bound(v[0], v[1]);
            case "doors": return x.doors(v[0]);
            case "mixed": return x.mixed(v[0], v[1], v[2]);
            case "out": return x.out(v[0]);
            case "outOf": return x.outOf(v[0], v[1]);
            case "missed": return x.missed(v[0]);
            case "stay": return x.stay(v[0], v[1], v[2]);
            case "image": return x.image();
            case "restore": return x.restore();
            case "count": return x.count(v[0]);
            default: return x.digest();
        }
    }
}
