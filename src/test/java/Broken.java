import java.util.ArrayList;
import java.util.List;

/**
 * Hands each call on to the program, but breaks one promise in one way. BrokenPromisesTest gives it the program's name,
 * sets promise and how, and runs the tests with it: one of them has to fail.
 */
public final class Broken {
    public static final int NONE = -1, UNKNOWN = -101, OUTSIDE = -102, STATE = -103, FULL = -104;

    static int promise;
    static String how = "";

    private final RowsIntoPlane whole = new RowsIntoPlane();
    private final List<Long> written = new ArrayList<>();
    private boolean isKept;
    private Long firstDigest;

    public Broken() {
        if (is(1, "there is a CABIN")) {
            whole.cabin(2, 1, 0);
        }
        if (is(1, "there are PEOPLE")) {
            whole.cabin(12, 3, 6);
            whole.person(0, NONE, 11, 1, 2, 0, 0);
        }
        if (is(1, "there are CALLS")) {
            whole.letters('w');
            whole.call();
        }
    }

    private static boolean is(int ofPromise, String inWay) {
        return promise == ofPromise && how.equals(inWay);
    }

    /** What was answered, or what is answered in its stead, in a way that every promise can be broken. */
    private int answer(int ofPromise, int answer) {
        if (promise != ofPromise) {
            return answer;
        }
        if (answer < NONE && how.equals("a refusal changes something") && whole.letters('w') < 0) {
            whole.blank();
        }
        if (answer >= 0 && how.equals("an answer is one more")) {
            return answer + 1;
        }
        if (answer == NONE && how.equals("NONE is 0")) {
            return 0;
        }
        boolean isAnother = answer == UNKNOWN && how.equals("UNKNOWN is another refusal")
            || answer == OUTSIDE && how.equals("OUTSIDE is another refusal")
            || answer == STATE && how.equals("STATE is another refusal")
            || answer == FULL && how.equals("FULL is another refusal");
        if (isAnother) {
            return answer == STATE ? OUTSIDE : STATE;
        }
        boolean isGiven = answer == UNKNOWN && how.equals("UNKNOWN is not refused")
            || answer == OUTSIDE && how.equals("OUTSIDE is not refused")
            || answer == STATE && how.equals("STATE is not refused")
            || answer == FULL && how.equals("FULL is not refused");
        return isGiven ? 0 : answer;
    }

    public int cabin(int rows, int wide, int room) {
        List<int[]> people = new ArrayList<>();
        for (int i = 0; i < whole.count(3); i++) {
            people.add(told(i));
        }
        int seats = whole.cabin(rows, wide, is(2, "ROOM is one less") ? Math.max(0, room - 1) : room);
        if (seats > 0) {
            isKept = false;
        }
        if (seats > 0 && is(2, "PEOPLE stay")) {
            for (int[] p : people) {
                whole.person(p[0], p[1], p[2], p[3], p[4], p[5], p[6]);
            }
        }
        if (seats == OUTSIDE && rows > 12 && is(2, "more ROWS are 12")) {
            return whole.cabin(12, wide, room);
        }
        return answer(2, seats);
    }

    private int[] told(int person) {
        int[] told = new int[7];
        for (int what = 0; what < told.length; what++) {
            told[what] = whole.about(person, what);
        }
        return told;
    }

    public int person(int kind, int n, int row, int side, int depth, int bags, int worth) {
        int with = kind != 3 && is(3, "n is not looked at") ? NONE : n;
        int person = whole.person(kind, with, row, side, depth, bags, worth);
        if (person >= 0 && is(3, "BAGS are forgotten")) {
            whole.change(person, 5, 0);
        }
        if (person >= 0 && is(3, "WORTH is forgotten")) {
            whole.change(person, 6, 0);
        }
        if (person == OUTSIDE && worth > 999 && is(3, "more WORTH is 999")) {
            return whole.person(kind, n, row, side, depth, bags, 999);
        }
        return answer(3, person);
    }

    public int as(int person, int kind) {
        int of = whole.about(person, 0);
        if (of == 3 && kind == 2 && is(4, "a GROUPED is not HASTY")) {
            return NONE;
        }
        if (of == 2 && kind == 3 && is(4, "a HASTY is GROUPED")) {
            return person;
        }
        if (of == 1 && kind == 0 && is(4, "a LATE is no PERSON")) {
            return NONE;
        }
        return answer(4, whole.as(person, kind));
    }

    public int about(int person, int what) {
        int asked = what;
        if (is(5, "KIND for n")) {
            asked = exchanged(what, 0, 1);
        } else if (is(5, "ROW for SIDE")) {
            asked = exchanged(what, 2, 3);
        } else if (is(5, "DEPTH for BAGS")) {
            asked = exchanged(what, 4, 5);
        } else if (is(5, "BAGS for WORTH")) {
            asked = exchanged(what, 5, 6);
        }
        return answer(5, whole.about(person, asked));
    }

    private static int exchanged(int what, int one, int other) {
        if (what == one) {
            return other;
        }
        return what == other ? one : what;
    }

    public int change(int person, int what, int v) {
        int was = whole.change(person, what, v);
        if (was >= 0 && is(6, "nothing becomes v")) {
            whole.change(person, what, was);
        }
        if (was >= 0 && is(6, "what it is now")) {
            return v;
        }
        return answer(6, was);
    }

    public int letters(long w) {
        long asked = w;
        if (is(7, "the highest byte is first")) {
            asked = Long.reverseBytes(w);
            while (asked != 0 && (asked & 255) == 0) {
                asked >>>= 8;
            }
        }
        int many = whole.letters(asked);
        if (many >= 0) {
            written.add(asked);
        }
        if (many >= 0 && is(7, "THE PAGE begins anew")) {
            whole.blank();
            return whole.letters(asked);
        }
        return answer(7, many);
    }

    public int blank() {
        written.clear();
        return answer(8, is(8, "THE PAGE stays") ? whole.count(5) : whole.blank());
    }

    public int fault() {
        return answer(9, is(9, "there is none") ? whole.count(5) : whole.fault());
    }

    public int call() {
        if (whole.count(5) == 0 && is(10, "an empty PAGE is a CALL")) {
            whole.letters('w');
        }
        int call = whole.call();
        if (call >= 0 && is(10, "THE PAGE stays")) {
            written.forEach(whole::letters);
        } else if (call >= 0) {
            written.clear();
        }
        return answer(10, call);
    }

    public int order(int call, int i) {
        if (i == 12 && whole.order(call, 0) >= NONE && is(11, "there is a place 12")) {
            return NONE;
        }
        boolean isThere = i >= 0 && i < whole.count(3);
        return answer(11, whole.order(call, isThere && is(11, "from the back") ? whole.count(3) - 1 - i : i));
    }

    public int board(int call, int what) {
        return answer(12, whole.board(call, is(12, "BELOW for WAITS") ? exchanged(what, 1, 2) : what));
    }

    public int sits(int call, int person, int what) {
        int sits = whole.sits(call, person, what);
        if (sits >= 0 && what == 1 && is(13, "as all WAIT")) {
            return whole.board(call, 2);
        }
        if (sits >= 0 && what > 2 && is(13, "all BAGS as the first")) {
            return whole.sits(call, person, 2);
        }
        return answer(13, sits);
    }

    public int stands(int call, int second, int cell) {
        int stands = whole.stands(call, second, cell);
        if (stands >= NONE && second < 999 && is(14, "a second late")) {
            return whole.stands(call, second + 1, cell);
        }
        if (stands == OUTSIDE && second == 1000 && is(14, "second 1000")) {
            return NONE;
        }
        return answer(14, stands);
    }

    public int least() {
        int least = whole.least();
        for (int call = 0; least >= 0 && call < whole.count(4); call++) {
            int more = whole.board(call, 0) - whole.board(least, 0);
            if (more == 0 && is(15, "of like ones the last") || more > 0 && is(15, "the most")) {
                least = call;
            }
        }
        return answer(15, least);
    }

    public int bestOrder(int what) {
        if (whole.count(7) == 19 && is(16, "done 19 times")) {
            return STATE;
        }
        if (what > 0 && what < 7 && is(16, "from the back")) {
            int many = whole.count(3);
            return whole.bestOrder(what <= many ? many + 1 - what : what);
        }
        return answer(16, whole.bestOrder(what));
    }

    public int swap(int call) {
        int swap = whole.swap(call);
        if (swap >= 0 && is(17, "the second place first")) {
            return swap % 16 * 16 + swap / 16;
        }
        return answer(17, swap);
    }

    public int later(int call, int person) {
        int later = whole.later(call, person);
        return answer(18, later >= 0 && is(18, "in its place") ? whole.board(call, 0) : later);
    }

    public int bound(int call, int bags) {
        int bound = whole.bound(call, bags);
        return answer(19, bound >= 0 && is(19, "as many BAGS as there are") ? whole.board(call, 0) : bound);
    }

    public int doors(int call) {
        int doors = whole.doors(call);
        return answer(20, doors >= 0 && is(20, "one door") ? whole.board(call, 0) : doors);
    }

    public int mixed(int n, int seed, int what) {
        int mixed = whole.mixed(n, seed, what);
        if (mixed >= 0 && is(21, "each by that SEED")) {
            return whole.mixed(1, seed, what);
        }
        if (is(21, "the least for the greatest")) {
            return whole.mixed(n, seed, exchanged(what, 0, 1));
        }
        return answer(21, mixed);
    }

    public int out(int manner) {
        int out = whole.out(manner);
        return answer(22, out >= 0 && is(22, "MANNER 0") ? whole.out(0) : out);
    }

    public int outOf(int person, int manner) {
        int out = whole.outOf(person, manner);
        if (out >= 0 && is(23, "the last one")) {
            return whole.out(manner);
        }
        return answer(23, out >= 0 && is(23, "MANNER 0") ? whole.outOf(person, 0) : out);
    }

    public int missed(int manner) {
        int missed = whole.missed(manner);
        for (int i = 0; missed >= 0 && i < whole.count(3); i++) {
            if (whole.outOf(i, manner) == whole.about(i, 6) && is(24, "in that second, too")) {
                missed |= 1 << i;
            }
        }
        return answer(24, missed >= 0 && is(24, "MANNER 0") ? whole.missed(0) : missed);
    }

    public int stay(int n, int step, int what) {
        int stay = whole.stay(n, step, what);
        if (stay > 0 && what == 0 && is(25, "a STEP less")) {
            return stay - step;
        }
        return answer(25, stay >= 0 && is(25, "PRICE for all") ? whole.stay(n, step, 0) : stay);
    }

    public int image() {
        int people = whole.count(0) == 0 ? STATE : whole.count(3);
        if (is(26, "none is kept") || isKept && is(26, "the first, not the latest")) {
            return people;
        }
        isKept = people >= 0;
        return answer(26, whole.image());
    }

    public int restore() {
        List<int[]> people = new ArrayList<>();
        for (int i = 0; i < whole.count(3); i++) {
            people.add(told(i));
        }
        if (isKept && is(27, "it does not go on")) {
            return people.size();
        }
        int many = whole.restore();
        for (int i = 0; i < many; i++) {
            if (is(27, "BAGS are as they are")) {
                whole.change(i, 5, people.get(i)[5]);
            }
            if (is(27, "WORTH is as it is")) {
                whole.change(i, 6, people.get(i)[6]);
            }
        }
        if (many >= 0 && is(27, "those that came stay")) {
            for (int[] p : people.subList(many, people.size())) {
                whole.person(p[0], p[1], p[2], p[3], p[4], p[5], p[6]);
            }
        }
        return answer(27, many);
    }

    public int count(int what) {
        int count = whole.count(what);
        return answer(28, promise == 28 && how.equals(what + " is one more") ? count + 1 : count);
    }

    public long digest() {
        long digest = whole.digest();
        if (firstDigest == null) {
            firstDigest = digest;
        }
        if (is(29, "as it was at first")) {
            return firstDigest;
        }
        if (whole.count(0) == 0 && is(29, "without a CABIN it is 523")) {
            return 523;
        }
        return is(29, "an answer is one more") ? digest + 1 : digest;
    }
}
