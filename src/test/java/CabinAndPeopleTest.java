/** Promises 1 to 6: a new object, cabin, person, as, about, change. */
public final class CabinAndPeopleTest {
    private static final int NONE = RowsIntoPlane.NONE, UNKNOWN = RowsIntoPlane.UNKNOWN;
    private static final int OUTSIDE = RowsIntoPlane.OUTSIDE, STATE = RowsIntoPlane.STATE;
    private static final int FULL = RowsIntoPlane.FULL;
    private static final int LEAST = Integer.MIN_VALUE, MOST = Integer.MAX_VALUE;
    private static final Due due = new Due();

    public static void main(String[] args) {
        newObject();
        cabin();
        cabinTakesPeopleAway();
        person();
        personRefusals();
        personRefusalsInOrder();
        twelvePeople();
        as();
        about();
        change();
        due.end("CabinAndPeopleTest");
    }

    private static void newObject() {
        RowsIntoPlane x = new RowsIntoPlane();
        for (int what = 0; what <= 8; what++) {
            due.is("new: count(" + what + ")", x.count(what), 0);
        }
        due.is("new: person", x.person(0, NONE, 0, 0, 0, 0, 0), STATE);
        due.is("new: person of a wrong kind", x.person(9, 9, 99, 9, 9, 9, -1), STATE);
        due.is("new: as", x.as(0, 0), UNKNOWN);
        due.is("new: about", x.about(0, 0), UNKNOWN);
        due.is("new: change", x.change(0, 5, 0), UNKNOWN);
        due.is("new: blank", x.blank(), 0);
        due.is("new: fault", x.fault(), 0);
        due.is("new: call", x.call(), STATE);
        due.is("new: order", x.order(0, 0), UNKNOWN);
        due.is("new: board", x.board(0, 0), UNKNOWN);
        due.is("new: sits", x.sits(0, 0, 0), UNKNOWN);
        due.is("new: stands", x.stands(0, 1, 0), UNKNOWN);
        due.is("new: least", x.least(), STATE);
        due.is("new: bestOrder", x.bestOrder(0), STATE);
        due.is("new: bestOrder of a wrong what", x.bestOrder(7), STATE);
        due.is("new: swap", x.swap(0), UNKNOWN);
        due.is("new: later", x.later(0, 0), UNKNOWN);
        due.is("new: bound", x.bound(0, 0), UNKNOWN);
        due.is("new: doors", x.doors(0), UNKNOWN);
        due.is("new: mixed", x.mixed(1, 0, 0), STATE);
        due.is("new: mixed of a wrong n", x.mixed(0, -1, 9), STATE);
        due.is("new: out", x.out(0), STATE);
        due.is("new: out of a wrong manner", x.out(9), STATE);
        due.is("new: outOf", x.outOf(0, 0), UNKNOWN);
        due.is("new: missed", x.missed(0), STATE);
        due.is("new: missed of a wrong manner", x.missed(9), STATE);
        due.is("new: stay", x.stay(1, 1, 0), NONE);
        due.is("new: image", x.image(), STATE);
        due.is("new: restore", x.restore(), STATE);
    }

    private static void cabin() {
        RowsIntoPlane x = new RowsIntoPlane();
        due.is("cabin(2, 1, 0)", x.cabin(2, 1, 0), 4);
        due.is("cabin(12, 3, 6)", x.cabin(12, 3, 6), 72);
        due.is("cabin(5, 2, 3)", x.cabin(5, 2, 3), 20);
        int[][] wrong = {{1, 1, 0}, {13, 1, 0}, {2, 0, 0}, {2, 4, 0}, {2, 1, -1}, {2, 1, 7},
            {LEAST, 1, 0}, {MOST, 1, 0}, {2, LEAST, 0}, {2, MOST, 0}, {2, 1, LEAST}, {2, 1, MOST}};
        for (int[] w : wrong) {
            due.is("cabin" + java.util.Arrays.toString(w), x.cabin(w[0], w[1], w[2]), OUTSIDE);
        }
        due.is("rows are as they were", x.count(0), 5);
        due.is("seats are as they were", x.count(1), 20);
        due.is("room is as it was", x.count(2), 3);
        due.is("three cabins there were", x.count(6), 3);
    }

    private static void cabinTakesPeopleAway() {
        RowsIntoPlane x = new RowsIntoPlane();
        x.cabin(4, 2, 2);
        Due.seat(x, 0, 0, 0, 1);
        Due.call(x, "w");
        Due.write(x, "b");
        x.bestOrder(0);
        x.image();
        due.is("a refused cabin", x.cabin(4, 2, 9), OUTSIDE);
        due.is("leaves people", x.count(3), 1);
        due.is("and the image", x.restore(), 1);
        due.is("another cabin", x.cabin(4, 2, 2), 16);
        due.is("people are gone", x.count(3), 0);
        due.is("about one who is gone", x.about(0, 0), UNKNOWN);
        due.is("bags are gone", x.count(8), 0);
        due.is("calls stay", x.count(4), 1);
        due.is("the page stays", x.count(5), 1);
        due.is("bestOrder stays counted", x.count(7), 1);
        due.is("the image is gone", x.restore(), STATE);
        due.is("the seat is free", Due.seat(x, 0, 0, 0, 1), 0);
    }

    private static void person() {
        RowsIntoPlane x = new RowsIntoPlane();
        x.cabin(12, 3, 0);
        due.is("a person", x.person(0, NONE, 0, 0, 0, 0, 0), 0);
        due.is("a late one", x.person(1, NONE, 11, 1, 2, 3, 999), 1);
        due.is("a hasty one", x.person(2, NONE, 11, 0, 2, 3, 999), 2);
        due.is("a grouped one", x.person(3, 2, 11, 1, 1, 1, 1), 3);
        due.is("one grouped with a grouped one", x.person(3, 3, 10, 1, 1, 1, 1), 4);
        due.is("the seat is taken", x.person(0, NONE, 11, 1, 2, 0, 0), STATE);
        due.is("by another kind, too", x.person(3, 0, 0, 0, 0, 0, 0), STATE);
        due.is("the other side is free", x.person(0, NONE, 0, 1, 0, 0, 0), 5);
        due.is("another depth is free", x.person(0, NONE, 0, 0, 1, 0, 0), 6);
        due.is("another row is free", x.person(0, NONE, 1, 0, 0, 0, 0), 7);
        due.is("count(3)", x.count(3), 8);
    }

    private static void personRefusals() {
        RowsIntoPlane x = new RowsIntoPlane();
        x.cabin(3, 2, 1);
        Due.seat(x, 0, 0, 0, 2);
        long before = x.digest();
        int[][] unknown = {{3, 1}, {3, NONE}, {3, LEAST}, {3, MOST}, {3, 11}, {0, 0}, {1, 0}, {2, 0}, {0, -2}, {0, MOST}};
        for (int[] u : unknown) {
            due.is("kind " + u[0] + " with " + u[1], x.person(u[0], u[1], 1, 0, 0, 0, 0), UNKNOWN);
        }
        for (int kind : new int[] {-1, 4, LEAST, MOST}) {
            due.is("kind " + kind, x.person(kind, NONE, 1, 0, 0, 0, 0), OUTSIDE);
        }
        for (int v : new int[] {-1, LEAST, MOST, 1000}) {
            due.is("row " + v, x.person(0, NONE, v, 0, 0, 0, 0), OUTSIDE);
            due.is("side " + v, x.person(0, NONE, 1, v, 0, 0, 0), OUTSIDE);
            due.is("depth " + v, x.person(0, NONE, 1, 0, v, 0, 0), OUTSIDE);
            due.is("bags " + v, x.person(0, NONE, 1, 0, 0, v, 0), OUTSIDE);
            due.is("worth " + v, x.person(0, NONE, 1, 0, 0, 0, v), OUTSIDE);
        }
        due.is("a row too many", x.person(0, NONE, 3, 0, 0, 0, 0), OUTSIDE);
        due.is("a side too many", x.person(0, NONE, 1, 2, 0, 0, 0), OUTSIDE);
        due.is("too deep", x.person(0, NONE, 1, 0, 2, 0, 0), OUTSIDE);
        due.is("a bag too many", x.person(0, NONE, 1, 0, 0, 4, 0), OUTSIDE);
        due.is("refusals change nothing", x.digest(), before);
    }

    private static void personRefusalsInOrder() {
        RowsIntoPlane x = new RowsIntoPlane();
        x.cabin(2, 1, 0);
        Due.seat(x, 0, 0, 0, 0);
        due.is("kind ahead of n", x.person(4, 7, 9, 9, 9, 9, -1), OUTSIDE);
        due.is("n ahead of row", x.person(3, 7, 9, 9, 9, 9, -1), UNKNOWN);
        due.is("n of no group ahead of row", x.person(0, 0, 9, 9, 9, 9, -1), UNKNOWN);
        due.is("bags ahead of the seat", x.person(0, NONE, 0, 0, 0, 4, 0), OUTSIDE);
        due.is("worth ahead of the seat", x.person(0, NONE, 0, 0, 0, 0, 1000), OUTSIDE);
    }

    private static void twelvePeople() {
        RowsIntoPlane x = new RowsIntoPlane();
        x.cabin(12, 3, 1);
        for (int i = 0; i < 12; i++) {
            due.is("person " + i, Due.seat(x, i, 0, 0, 1), i);
        }
        long before = x.digest();
        due.is("a thirteenth", Due.seat(x, 0, 1, 0, 1), FULL);
        due.is("a taken seat ahead of FULL", Due.seat(x, 0, 0, 0, 1), STATE);
        due.is("a wrong seat ahead of FULL", Due.seat(x, 12, 0, 0, 1), OUTSIDE);
        due.is("FULL changes nothing", x.digest(), before);
    }

    private static void as() {
        RowsIntoPlane x = new RowsIntoPlane();
        x.cabin(4, 1, 0);
        for (int kind = 0; kind <= 3; kind++) {
            x.person(kind, kind == 3 ? 0 : NONE, kind, 0, 0, 0, 0);
        }
        int[][] want = {{0, NONE, NONE, NONE}, {1, 1, NONE, NONE}, {2, NONE, 2, NONE}, {3, NONE, 3, 3}};
        for (int person = 0; person <= 3; person++) {
            for (int kind = 0; kind <= 3; kind++) {
                due.is("as(" + person + ", " + kind + ")", x.as(person, kind), want[person][kind]);
            }
        }
        for (int v : new int[] {-1, 4, LEAST, MOST}) {
            due.is("as(" + v + ", 0)", x.as(v, 0), UNKNOWN);
            due.is("as(0, " + v + ")", x.as(0, v), OUTSIDE);
            due.is("as(" + v + ", " + v + ")", x.as(v, v), UNKNOWN);
        }
    }

    private static void about() {
        RowsIntoPlane x = new RowsIntoPlane();
        x.cabin(9, 3, 0);
        x.person(1, NONE, 8, 1, 2, 3, 777);
        x.person(3, 0, 4, 0, 1, 2, 5);
        int[][] want = {{1, NONE, 8, 1, 2, 3, 777}, {3, 0, 4, 0, 1, 2, 5}};
        for (int person = 0; person <= 1; person++) {
            for (int what = 0; what <= 6; what++) {
                due.is("about(" + person + ", " + what + ")", x.about(person, what), want[person][what]);
            }
        }
        for (int v : new int[] {-1, 7, LEAST, MOST}) {
            due.is("about(" + v + ", 0)", x.about(v, 0), UNKNOWN);
            due.is("about(0, " + v + ")", x.about(0, v), OUTSIDE);
            due.is("about(" + v + ", " + v + ")", x.about(v, v), UNKNOWN);
        }
        due.is("about(2, 0)", x.about(2, 0), UNKNOWN);
    }

    private static void change() {
        RowsIntoPlane x = new RowsIntoPlane();
        x.cabin(3, 1, 0);
        x.person(0, NONE, 1, 0, 0, 2, 40);
        due.is("change(0, 5, 3)", x.change(0, 5, 3), 2);
        due.is("change(0, 5, 0)", x.change(0, 5, 0), 3);
        due.is("change(0, 6, 999)", x.change(0, 6, 999), 40);
        due.is("change(0, 6, 0)", x.change(0, 6, 0), 999);
        due.is("change(0, 6, 4)", x.change(0, 6, 4), 0);
        long before = x.digest();
        for (int what : new int[] {0, 1, 2, 3, 4, 7, -1, LEAST, MOST}) {
            due.is("change(0, " + what + ", 1)", x.change(0, what, 1), OUTSIDE);
        }
        for (int v : new int[] {-1, 4, LEAST, MOST}) {
            due.is("change(0, 5, " + v + ")", x.change(0, 5, v), OUTSIDE);
        }
        for (int v : new int[] {-1, 1000, LEAST, MOST}) {
            due.is("change(0, 6, " + v + ")", x.change(0, 6, v), OUTSIDE);
            due.is("change(" + v + ", 9, 9)", x.change(v, 9, 9), UNKNOWN);
        }
        due.is("change(1, 5, 0)", x.change(1, 5, 0), UNKNOWN);
        due.is("refusals change nothing", x.digest(), before);
        due.is("bags", x.about(0, 5), 0);
        due.is("worth", x.about(0, 6), 4);
    }
}
