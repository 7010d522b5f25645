/** Promises 22 to 25: out, outOf, missed, stay. */
public final class LeavingTest {
    private static final int NONE = RowsIntoPlane.NONE, UNKNOWN = RowsIntoPlane.UNKNOWN;
    private static final int OUTSIDE = RowsIntoPlane.OUTSIDE, STATE = RowsIntoPlane.STATE;
    private static final int LEAST = Integer.MIN_VALUE, MOST = Integer.MAX_VALUE;
    private static final Due due = new Due();

    public static void main(String[] args) {
        nobody();
        oneGoes();
        nearestTheAisle();
        manners();
        mannersAreToldOnceASecond();
        blockedByABusyOne();
        missed();
        refusals();
        stay();
        stayRefused();
        due.end("LeavingTest");
    }

    private static void nobody() {
        RowsIntoPlane x = new RowsIntoPlane();
        x.cabin(2, 1, 0);
        for (int manner = 0; manner <= 2; manner++) {
            due.is("out", x.out(manner), 0);
            due.is("missed", x.missed(manner), 0);
        }
    }

    private static void oneGoes() {
        RowsIntoPlane x = new RowsIntoPlane();
        x.cabin(4, 2, 0);
        Due.seat(x, 2, 0, 1, 3);
        // Up in 1, busy from 2 to 7, in cell 1 in 8, in cell 0 in 9, out in 10.
        for (int manner = 0; manner <= 2; manner++) {
            due.is("out", x.out(manner), 10);
            due.is("outOf", x.outOf(0, manner), 10);
        }
        x.change(0, 5, 0);
        due.is("without bags", x.out(0), 4);
        x.cabin(4, 2, 0);
        due.is("nobody then", x.out(0), 0);
    }

    private static void outIs(RowsIntoPlane x, int manner, int... want) {
        int last = 0;
        for (int i = 0; i < want.length; i++) {
            due.is("outOf(" + i + ", " + manner + ")", x.outOf(i, manner), want[i]);
            last = Math.max(last, want[i]);
        }
        due.is("out(" + manner + ")", x.out(manner), last);
    }

    private static void nearestTheAisle() {
        RowsIntoPlane x = new RowsIntoPlane();
        x.cabin(2, 2, 0);
        Due.seat(x, 0, 1, 1, 0);
        Due.seat(x, 0, 0, 1, 0);
        Due.seat(x, 0, 1, 0, 0);
        Due.seat(x, 0, 0, 0, 0);
        // One gets up when the one ahead has gone out, in the same second.
        outIs(x, 0, 5, 4, 3, 2);
        outIs(x, 1, 5, 4, 3, 2);
        outIs(x, 2, 5, 4, 3, 2);
    }

    private static void manners() {
        RowsIntoPlane x = new RowsIntoPlane();
        x.cabin(2, 2, 0);
        Due.seat(x, 0, 0, 0, 1);
        Due.seat(x, 0, 0, 1, 0);
        Due.seat(x, 1, 0, 1, 0);
        // By 0: 0 and 2 are up in 1; 0 is busy in 2 and 3, out in 4, when 2 goes into cell 0; 2 is out in 5,
        // when 1 gets up; 1 is out in 6.
        outIs(x, 0, 4, 6, 5);
        // By 1: 0 is up in 1; from 2 on depth 1 may: 2 gets up in 2, goes on in 4, and is out in 5; then 1.
        outIs(x, 1, 4, 6, 5);
        // By 2: 0 is up in 1; 1 may in 4; 2 may from 5 on: up in 5, as 1 goes out; in cell 0 in 6, out in 7.
        outIs(x, 2, 4, 5, 7);
        x.change(0, 5, 0);
        outIs(x, 0, 2, 4, 3);
        // By 1: 2 gets up in 2, and so does 1, as 0 is out; 1 is out in 3, 2 goes on then, and is out in 4.
        outIs(x, 1, 2, 3, 4);
        outIs(x, 2, 2, 3, 5);
    }

    private static void mannersAreToldOnceASecond() {
        RowsIntoPlane x = new RowsIntoPlane();
        x.cabin(3, 2, 0);
        Due.seat(x, 0, 0, 0, 0);
        Due.seat(x, 1, 0, 1, 0);
        Due.seat(x, 2, 0, 1, 0);
        // By 1: in second 1 only depth 0 may, though 0 is up when the turn comes to row 1.
        outIs(x, 1, 2, 4, 5);
        // By 2: row 1 may in second 2, row 2 in second 3.
        outIs(x, 2, 2, 4, 6);
        outIs(x, 0, 2, 3, 4);
    }

    private static void blockedByABusyOne() {
        RowsIntoPlane x = new RowsIntoPlane();
        x.cabin(3, 1, 0);
        Due.seat(x, 0, 0, 0, 3);
        Due.seat(x, 1, 0, 0, 0);
        Due.seat(x, 2, 0, 0, 2);
        Due.seat(x, 1, 1, 0, 0);
        // 0 is busy from 2 to 7, out in 8; 1 then in cell 0, 2 in cell 1; 1 out in 9, 2 in 10; 3 gets up in 9.
        outIs(x, 0, 8, 9, 10, 11);
    }

    private static void missed() {
        RowsIntoPlane x = new RowsIntoPlane();
        x.cabin(2, 2, 0);
        x.person(0, NONE, 0, 0, 0, 0, 2);
        x.person(0, NONE, 0, 0, 1, 0, 3);
        x.person(0, NONE, 1, 0, 1, 0, 4);
        // Out as in manners(): 2, 4, 3 by 0; 2, 3, 4 by 1; 2, 3, 5 by 2.
        due.is("missed(0)", x.missed(0), 2);
        due.is("missed(1)", x.missed(1), 0);
        due.is("missed(2)", x.missed(2), 4);
        x.change(0, 6, 1);
        due.is("missed(0) of less worth", x.missed(0), 3);
        x.change(0, 6, 0);
        x.change(1, 6, 0);
        x.change(2, 6, 0);
        due.is("all", x.missed(1), 7);
    }

    private static void refusals() {
        RowsIntoPlane x = new RowsIntoPlane();
        due.is("out, no cabin", x.out(3), STATE);
        due.is("missed, no cabin", x.missed(3), STATE);
        due.is("outOf, nobody", x.outOf(0, 3), UNKNOWN);
        x.cabin(2, 1, 0);
        Due.seat(x, 0, 0, 0, 0);
        for (int v : new int[] {-1, 3, LEAST, MOST}) {
            due.is("out(" + v + ")", x.out(v), OUTSIDE);
            due.is("missed(" + v + ")", x.missed(v), OUTSIDE);
            due.is("outOf(0, " + v + ")", x.outOf(0, v), OUTSIDE);
            due.is("outOf(" + v + ", 0)", x.outOf(v, 0), UNKNOWN);
            due.is("outOf(" + v + ", " + v + ")", x.outOf(v, v), UNKNOWN);
        }
        due.is("outOf(1, 0)", x.outOf(1, 0), UNKNOWN);
    }

    private static void stay() {
        RowsIntoPlane x = new RowsIntoPlane();
        x.cabin(12, 3, 0);
        due.is("nobody", x.stay(1, 1, 0), NONE);
        x.person(0, NONE, 0, 0, 0, 0, 50);
        x.person(0, NONE, 1, 0, 0, 0, 0);
        x.person(0, NONE, 2, 0, 0, 0, 999);
        x.person(0, NONE, 3, 0, 0, 0, 20);
        due.is("one stays for nothing", x.stay(1, 7, 0), 0);
        due.is("and costs nothing", x.stay(1, 7, 1), 0);
        due.is("two, by 7", x.stay(2, 7, 0), 21);
        due.is("two, by 7, cost", x.stay(2, 7, 1), 42);
        due.is("two, by 20", x.stay(2, 20, 0), 20);
        due.is("two, by 1", x.stay(2, 1, 0), 20);
        due.is("three, by 99", x.stay(3, 99, 0), 99);
        due.is("three, by 49, cost", x.stay(3, 49, 1), 294);
        due.is("four, by 99", x.stay(4, 99, 0), 1089);
        due.is("four, by 98", x.stay(4, 98, 0), 1078);
        due.is("four, by 1", x.stay(4, 1, 0), 999);
        due.is("four, by 98, cost", x.stay(4, 98, 1), 4312);
        due.is("five", x.stay(5, 1, 0), NONE);
        due.is("twelve", x.stay(12, 99, 1), NONE);
    }

    private static void stayRefused() {
        RowsIntoPlane x = new RowsIntoPlane();
        for (int cabins = 0; cabins <= 1; cabins++) {
            for (int v : new int[] {-1, 100, LEAST, MOST}) {
                due.is("n " + v, x.stay(v, 1, 0), OUTSIDE);
                due.is("step " + v, x.stay(1, v, 0), OUTSIDE);
                due.is("what " + v, x.stay(1, 1, v), OUTSIDE);
            }
            due.is("n 0", x.stay(0, 1, 0), OUTSIDE);
            due.is("n 13", x.stay(13, 1, 0), OUTSIDE);
            due.is("step 0", x.stay(1, 0, 0), OUTSIDE);
            due.is("what 2", x.stay(1, 1, 2), OUTSIDE);
            x.cabin(2, 1, 0);
        }
    }
}
