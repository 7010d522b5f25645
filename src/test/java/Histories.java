/** Objects in which calls are refused for all the reasons there are: empty ones, full ones, and some between. */
final class Histories {
    private static final int NONE = RowsIntoPlane.NONE;

    /** A new object. */
    final Twins fresh;
    /** Three CALLS, three letters, but no CABIN. */
    final Twins cabinless;
    /** A CABIN of 5 ROWS and two CALLS, but no PEOPLE, and an empty PAGE. */
    final Twins nobody;
    /** A CABIN with PEOPLE, but no CALLS. */
    final Twins callless;
    /** 5 PEOPLE, of all KINDS, two CALLS, and an IMAGE of three, who have changed since. */
    final Twins some;
    /** 12 PEOPLE, 8 CALLS, 16 letters, and bestOrder() was done 20 times. */
    final Twins full;
    /** 8 CALLS, and a PAGE that is a ninth. */
    final Twins ninth;
    /** An IMAGE of another CABIN. */
    final Twins another;

    Histories(Said said) {
        fresh = new Twins(said, "a new object", x -> { });
        cabinless = new Twins(said, "no CABIN", Histories::withoutCabin);
        nobody = new Twins(said, "nobody", Histories::withoutPeople);
        callless = new Twins(said, "no CALLS", Histories::withoutCalls);
        some = new Twins(said, "some", Histories::withSome);
        full = new Twins(said, "full", Histories::withAll);
        ninth = new Twins(said, "8 CALLS", Histories::withANinthCall);
        another = new Twins(said, "another CABIN", Histories::withAnotherCabin);
    }

    private static void withoutCabin(RowsIntoPlane x) {
        Due.call(x, "b3,w");
        Due.call(x, "g");
        Due.call(x, "s,o");
        Due.write(x, "f2,");
    }

    private static void withoutPeople(RowsIntoPlane x) {
        Due.call(x, "b2,w");
        Due.call(x, "g");
        x.cabin(5, 2, 1);
    }

    private static void withoutCalls(RowsIntoPlane x) {
        x.cabin(5, 3, 1);
        Due.seat(x, 0, 0, 0, 1);
        Due.seat(x, 0, 0, 1, 2);
        Due.write(x, "b");
    }

    private static void withSome(RowsIntoPlane x) {
        x.cabin(5, 3, 1);
        Due.call(x, "b2,w");
        Due.call(x, "g");
        x.person(0, NONE, 4, 0, 2, 2, 30);
        x.person(1, NONE, 0, 1, 0, 1, 5);
        x.person(2, NONE, 2, 0, 1, 3, 999);
        x.image();
        x.person(3, 1, 4, 0, 0, 0, 0);
        x.person(3, 3, 3, 1, 2, 1, 12);
        x.change(0, 5, 1);
        x.change(2, 6, 8);
        x.bestOrder(0);
        Due.write(x, "w,b");
    }

    private static void withAll(RowsIntoPlane x) {
        x.cabin(12, 3, 2);
        for (int i = 0; i < 20; i++) {
            x.bestOrder(0);
        }
        for (int i = 0; i < 12; i++) {
            x.person(i % 3, NONE, i, i % 2, i % 3, i % 4, 40 * i);
        }
        x.image();
        x.change(11, 5, 0);
        for (String text : new String[] {"b1", "b9", "f3,w", "a", "s,o,g,b2", "g", "w,f1", "o"}) {
            Due.call(x, text);
        }
        Due.write(x, "b1,f2,w,a,s,o,g,");
    }

    private static void withANinthCall(RowsIntoPlane x) {
        x.cabin(3, 2, 0);
        Due.seat(x, 2, 1, 1, 1);
        for (int i = 1; i <= 8; i++) {
            Due.call(x, "b" + i);
        }
        Due.write(x, "s,g");
    }

    private static void withAnotherCabin(RowsIntoPlane x) {
        x.cabin(4, 1, 0);
        Due.call(x, "w");
        Due.seat(x, 3, 0, 0, 3);
        x.image();
        x.cabin(4, 1, 0);
        Due.seat(x, 0, 0, 0, 1);
        Due.seat(x, 1, 0, 0, 2);
    }
}
