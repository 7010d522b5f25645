/** What the document says of BOARDING, and promises 12 to 14, at their edges; all worked out by hand. */
final class BoardSentences {
    private static final int NONE = RowsIntoPlane.NONE, UNKNOWN = RowsIntoPlane.UNKNOWN;
    private static final int OUTSIDE = RowsIntoPlane.OUTSIDE, STATE = RowsIntoPlane.STATE;

    private final Said said;
    private final Histories in;

    BoardSentences(Said said, Histories histories) {
        this.said = said;
        in = histories;
    }

    void test() {
        fromTheLastCell();
        busyToTheEnd();
        nearestBin();
        nearestBinAtTheEnds();
        below();
        getsUp();
        sitsAtOnce();
        waits();
        comesIn();
        seconds();
        board();
        sits();
        stands();
        refusedByAll();
    }

    /** By its one CALL all come by number, for nobody is ahead of another in nine ROWS at a time of nine at most. */
    private static RowsIntoPlane plane(int rows, int wide, int room) {
        RowsIntoPlane x = new RowsIntoPlane();
        x.cabin(rows, wide, room);
        Due.call(x, "b9");
        return x;
    }

    private void sitsIs(RowsIntoPlane x, int person, int second, int waits, int... bins) {
        said.is(person + " sits", x.sits(0, person, 0), second);
        said.is(person + " waits", x.sits(0, person, 1), waits);
        for (int bag = 0; bag < 3; bag++) {
            said.is(person + ", bag " + bag, x.sits(0, person, 2 + bag), bag < bins.length ? bins[bag] : NONE);
        }
    }

    private void fromTheLastCell() {
        said.terms("BOARDING by THE ORDER, second by second (1, 2, ..): in each one first those in the aisle, from the last "
            + "CELL to the first");
        RowsIntoPlane x = plane(3, 1, 0);
        Due.seat(x, 2, 0, 0, 0);
        Due.seat(x, 2, 1, 0, 0);
        // Each goes on in every second, 1 into the cell that 0 has just left.
        said.is("0 in the last CELL", x.stands(0, 3, 2), 0);
        said.is("1 just behind it", x.stands(0, 3, 1), 1);
        sitsIs(x, 0, 4, 0);
        sitsIs(x, 1, 5, 0);
        RowsIntoPlane y = plane(2, 1, 1);
        Due.seat(y, 1, 0, 0, 2);
        Due.seat(y, 0, 0, 0, 1);
        // Both begin in 3: 0, of the last cell, has both bins (4 and 6), and none is left for 1.
        sitsIs(y, 0, 13, 0, 1, 0);
        sitsIs(y, 1, 8, 0, NONE);
    }

    private void busyToTheEnd() {
        said.terms("1 who is BUSY has one second less to go; if it is none, it SITS (the CELL is empty then)");
        RowsIntoPlane x = plane(2, 1, 6);
        Due.seat(x, 1, 0, 0, 1);
        Due.seat(x, 1, 1, 0, 0);
        // 0 begins in 3 and is busy for 4; 1 waits from 3 to 6, and goes on in 7, when 0 sits.
        sitsIs(x, 0, 7, 0, 1);
        sitsIs(x, 1, 8, 4);
        said.is("0 is BUSY in 6", x.stands(0, 6, 1), 0);
        said.is("1 is behind it in 6", x.stands(0, 6, 0), 1);
        said.is("1 has its CELL in 7", x.stands(0, 7, 1), 1);
        said.is("nobody is behind in 7", x.stands(0, 7, 0), NONE);
        said.is("the CELL is empty in 8", x.stands(0, 8, 1), NONE);
    }

    private void nearestBin() {
        said.terms("2 Who is not, and stands in the CELL of its ROW, begins: each BAG, one by one, goes into the BIN with "
            + "room that is fewest ROWS away (of like ones the lesser ROW) and takes 4 and twice these ROWS");
        RowsIntoPlane x = plane(5, 1, 1);
        Due.seat(x, 2, 0, 0, 3);
        Due.seat(x, 2, 1, 0, 2);
        // 0 begins in 4: 4 for row 2, 6 for row 1 (of 1 and 3), 6 for row 3; it sits in 20.
        // 1 is in cell 1 in 3, waits from 4 to 19, is in cell 2 in 20, begins in 21: 8 for row 0 (of 0 and 4), 8 for 4.
        sitsIs(x, 0, 20, 0, 2, 1, 3);
        sitsIs(x, 1, 37, 16, 0, 4);
        said.is("nothing BELOW", x.board(0, 1), 0);
        RowsIntoPlane y = plane(4, 1, 2);
        Due.seat(y, 1, 0, 0, 3);
        Due.seat(y, 1, 1, 0, 3);
        // 0 begins in 3: 4, 4, and 6 for row 0; sits in 17. 1 comes in 2, waits from 3 to 16, begins in 18:
        // row 0 has room for one more (6), then row 2, one away as well (6 and 6).
        sitsIs(y, 0, 17, 0, 1, 1, 0);
        sitsIs(y, 1, 36, 14, 0, 2, 2);
    }

    private void nearestBinAtTheEnds() {
        said.terms("the BIN with room that is fewest ROWS away");
        RowsIntoPlane x = plane(9, 1, 1);
        Due.seat(x, 8, 0, 0, 3);
        // It begins in 10: 4, 6, 8.
        sitsIs(x, 0, 28, 0, 8, 7, 6);
        RowsIntoPlane y = plane(9, 1, 1);
        Due.seat(y, 0, 0, 0, 3);
        sitsIs(y, 0, 20, 0, 0, 1, 2);
        RowsIntoPlane z = plane(2, 1, 1);
        Due.seat(z, 1, 0, 0, 2);
        Due.seat(z, 1, 1, 0, 1);
        // From the last row to the first, and none is left behind that.
        sitsIs(z, 0, 13, 0, 1, 0);
        sitsIs(z, 1, 19, 10, NONE);
    }

    private void below() {
        said.terms("without any it goes BELOW and takes 5");
        RowsIntoPlane x = plane(2, 1, 0);
        Due.seat(x, 0, 0, 0, 3);
        sitsIs(x, 0, 17, 0, NONE, NONE, NONE);
        said.is("three", x.board(0, 1), 3);
        x.change(0, 5, 0);
        said.is("none", x.board(0, 1), 0);
        RowsIntoPlane y = plane(2, 1, 1);
        Due.seat(y, 0, 0, 0, 3);
        // 4, 6, and 5 for the third.
        sitsIs(y, 0, 17, 0, 0, 1, NONE);
        said.is("one", y.board(0, 1), 1);
        y.change(0, 5, 2);
        sitsIs(y, 0, 12, 0, 0, 1);
        said.is("all BINS are full, nothing BELOW", y.board(0, 1), 0);
    }

    /** The second in which the last one SITS, all in the first two rows and without bags. */
    private int lastOf(int[]... seats) {
        RowsIntoPlane x = plane(2, 3, 0);
        for (int[] seat : seats) {
            Due.seat(x, seat[0], seat[1], seat[2], 0);
        }
        return x.sits(0, seats.length - 1, 0);
    }

    private void getsUp() {
        said.terms("3 for each who SITS in that ROW, on that SIDE, of less DEPTH");
        said.is("one at the aisle", lastOf(new int[] {0, 0, 0}, new int[] {0, 0, 1}), 6);
        said.is("one at the aisle, two away", lastOf(new int[] {0, 1, 0}, new int[] {0, 1, 2}), 6);
        said.is("one in the middle", lastOf(new int[] {0, 0, 1}, new int[] {0, 0, 2}), 6);
        said.is("both", lastOf(new int[] {0, 0, 1}, new int[] {0, 0, 0}, new int[] {0, 0, 2}), 10);
        said.is("one of more DEPTH", lastOf(new int[] {0, 0, 1}, new int[] {0, 0, 0}), 3);
        said.is("on the other SIDE", lastOf(new int[] {0, 1, 0}, new int[] {0, 0, 1}), 3);
        said.is("in the ROW behind", lastOf(new int[] {1, 0, 0}, new int[] {0, 0, 1}), 3);
        said.is("in the ROW ahead", lastOf(new int[] {0, 0, 0}, new int[] {1, 0, 1}), 4);
        RowsIntoPlane x = plane(2, 2, 0);
        Due.seat(x, 0, 0, 1, 0);
        Due.seat(x, 0, 0, 0, 0);
        said.is("one who does not sit yet", x.sits(0, 0, 0), 2);
    }

    private void sitsAtOnce() {
        said.terms("if it is 0 altogether, it SITS at once, else it is BUSY for so long");
        RowsIntoPlane x = plane(2, 2, 6);
        Due.seat(x, 0, 0, 0, 0);
        said.is("it has its CELL in 1", x.stands(0, 1, 0), 0);
        sitsIs(x, 0, 2, 0);
        said.is("the CELL is empty in 2", x.stands(0, 2, 0), NONE);
        x.change(0, 5, 1);
        // It begins in 2, and is busy in 3, 4, 5 and 6.
        sitsIs(x, 0, 6, 0, 0);
        said.is("BUSY in 5", x.stands(0, 5, 0), 0);
        Due.seat(x, 0, 0, 1, 2);
        // 1 comes in 6, begins in 7: twice 4 and 3.
        sitsIs(x, 1, 18, 0, 0, 0);
    }

    private void waits() {
        said.terms("3 Who is not in the CELL of its ROW goes to the next CELL, if that is empty; else it WAITS.");
        RowsIntoPlane x = plane(3, 1, 0);
        Due.seat(x, 2, 0, 0, 1);
        Due.seat(x, 2, 1, 0, 0);
        Due.seat(x, 1, 0, 0, 0);
        Due.seat(x, 0, 0, 0, 0);
        // 0 begins in 4, sits in 9. 1 is in cell 1 in 3, waits from 4 to 8, goes on in 9, sits in 10.
        // 2 is in cell 0 in 3, waits from 4 to 8, goes on in 9, sits in 10. 3 comes in 9, sits in 10: it does not wait.
        sitsIs(x, 0, 9, 0, NONE);
        sitsIs(x, 1, 10, 5);
        sitsIs(x, 2, 10, 5);
        sitsIs(x, 3, 10, 0);
        said.is("all together", x.board(0, 2), 10);
        x.change(0, 5, 0);
        said.is("nobody WAITS", x.board(0, 2), 0);
    }

    private void comesIn() {
        said.terms("Then the next one of THE ORDER comes into CELL 0, if that is empty.");
        RowsIntoPlane x = plane(2, 1, 6);
        Due.seat(x, 0, 0, 0, 1);
        Due.seat(x, 1, 0, 0, 0);
        said.is("nobody has come ahead of second 1, one in it", x.stands(0, 1, 0), 0);
        said.is("it is not empty in 5", x.stands(0, 5, 0), 0);
        said.is("it was just left in 6", x.stands(0, 6, 0), 1);
        // Ahead of the door nobody waits.
        sitsIs(x, 1, 8, 0);
        RowsIntoPlane y = plane(4, 1, 0);
        Due.seat(y, 3, 0, 0, 0);
        Due.seat(y, 3, 1, 0, 0);
        Due.seat(y, 2, 0, 0, 0);
        said.is("one a second: the first in 2", y.stands(0, 2, 1), 0);
        said.is("one a second: the second in 2", y.stands(0, 2, 0), 1);
        said.is("one a second: the third in 3", y.stands(0, 3, 0), 2);
    }

    private void seconds() {
        said.terms("SECONDS: the one in which the last one SITS (0: nobody).");
        said.is("nobody", in.nobody.made().board(0, 0), 0);
        RowsIntoPlane x = plane(2, 1, 0);
        Due.seat(x, 0, 0, 0, 0);
        said.is("one", x.board(0, 0), 2);
        Due.seat(x, 1, 0, 0, 0);
        said.is("two", x.board(0, 0), 4);
        RowsIntoPlane y = plane(2, 1, 0);
        Due.seat(y, 1, 0, 0, 2);
        Due.seat(y, 0, 0, 0, 0);
        // 0 sits in 13, 1 in 3: the last who comes is not the last who sits.
        said.is("the first one is the last", y.board(0, 0), 13);
        y.cabin(2, 1, 0);
        said.is("nobody any more", y.board(0, 0), 0);
    }

    private void board() {
        said.promise(12, "BOARDING: what = 0 SECONDS, 1 how many BAGS go BELOW, 2 how many seconds all WAIT together.");
        for (int what = 0; what <= 2; what++) {
            said.is("nobody: what " + what, in.nobody.made().board(0, what), 0);
        }
        RowsIntoPlane x = plane(2, 1, 0);
        Due.seat(x, 1, 0, 0, 2);
        Due.seat(x, 1, 1, 0, 1);
        // 0 begins in 3, sits in 13; 1 waits from 3 to 12, begins in 14, sits in 19.
        int[] want = {19, 3, 10};
        for (int what = 0; what <= 2; what++) {
            said.is("two: what " + what, x.board(0, what), want[what]);
        }
        said.promise(12, "UNKNOWN; STATE; OUTSIDE.");
        refusals("board", 0, 2, (y, call, what) -> y.board(call, what));
    }

    private void sits() {
        said.promise(13, "The second in which a PERSON SITS (what = 0), how long it WAITS (1), 2 to 4: the ROW of the BIN "
            + "of its first, second, third BAG (NONE: BELOW, or it has none).");
        RowsIntoPlane x = plane(3, 1, 1);
        Due.seat(x, 1, 0, 0, 2);
        Due.seat(x, 1, 1, 0, 3);
        // 0 begins in 3: 4 and 6; sits in 13. 1 waits from 3 to 12, begins in 14: 6 for row 2, and twice 5.
        sitsIs(x, 0, 13, 0, 1, 0, NONE);
        sitsIs(x, 1, 30, 10, 2, NONE, NONE);
        x.change(1, 5, 0);
        sitsIs(x, 1, 14, 10, NONE, NONE, NONE);
        said.promise(13, "UNKNOWN: call, person; OUTSIDE.");
        in.some.bounds("call", 0, 1, (y, v) -> y.sits(v, 4, 0), UNKNOWN);
        in.full.bounds("call", 0, 7, (y, v) -> y.sits(v, 11, 0), UNKNOWN);
        in.some.bounds("person", 0, 4, (y, v) -> y.sits(1, v, 0), UNKNOWN);
        in.full.bounds("person", 0, 11, (y, v) -> y.sits(7, v, 0), UNKNOWN);
        in.some.bounds("what", 0, 4, (y, v) -> y.sits(1, 4, v), OUTSIDE);
        in.fresh.refuse("no CALLS, no PEOPLE", y -> y.sits(0, 0, 0), UNKNOWN);
        in.cabinless.refuse("no CABIN, so no PEOPLE", y -> y.sits(0, 0, 0), UNKNOWN);
        in.nobody.refuse("nobody", y -> y.sits(0, 0, 0), UNKNOWN);
        in.callless.refuse("no CALLS", y -> y.sits(0, 0, 0), UNKNOWN);
        in.some.refuse("call ahead of OUTSIDE", y -> y.sits(2, 0, 5), UNKNOWN);
        in.some.refuse("person ahead of OUTSIDE", y -> y.sits(0, 5, -1), UNKNOWN);
    }

    private void stands() {
        said.promise(14, "Who stands in a CELL of the aisle at the end of a second; NONE.");
        RowsIntoPlane x = plane(3, 1, 0);
        said.is("nobody", x.stands(0, 1, 0), NONE);
        Due.seat(x, 2, 0, 0, 0);
        int[][] want = {{0, NONE, NONE}, {NONE, 0, NONE}, {NONE, NONE, 0}, {NONE, NONE, NONE}};
        for (int second = 1; second <= 4; second++) {
            for (int cell = 0; cell < 3; cell++) {
                said.is("second " + second + ", CELL " + cell, x.stands(0, second, cell), want[second - 1][cell]);
            }
        }
        said.is("long behind the last one", x.stands(0, 999, 2), NONE);
        said.promise(14, "UNKNOWN; STATE; OUTSIDE: second (1 to 999), cell.");
        in.some.bounds("second", 1, 999, (y, v) -> y.stands(1, v, 0), OUTSIDE);
        in.some.bounds("cell", 0, 4, (y, v) -> y.stands(1, 1, v), OUTSIDE);
        in.full.bounds("cell", 0, 11, (y, v) -> y.stands(7, 999, v), OUTSIDE);
        in.nobody.bounds("cell, nobody there", 0, 4, (y, v) -> y.stands(0, 1, v), OUTSIDE);
        refusals("stands", 0, 4, (y, call, cell) -> y.stands(call, 1, cell));
        in.some.refuse("UNKNOWN ahead of second", y -> y.stands(2, 0, 0), UNKNOWN);
        in.cabinless.refuse("STATE ahead of second", y -> y.stands(0, 0, 0), STATE);
        in.cabinless.refuse("STATE ahead of second, too large", y -> y.stands(0, 1000, 0), STATE);
    }

    /** A call that boards by a CALL, with one number more. */
    interface ByCall {
        long of(RowsIntoPlane x, int call, int v);
    }

    /** UNKNOWN, then STATE, then OUTSIDE, if the number is not from least to most in a CABIN of 5 ROWS. */
    private void refusals(String name, int least, int most, ByCall ask) {
        in.some.bounds(name + ", number", least, most, (x, v) -> ask.of(x, 1, v), OUTSIDE);
        in.some.bounds(name + ", call", 0, 1, (x, v) -> ask.of(x, v, least), UNKNOWN);
        in.full.bounds(name + ", call", 0, 7, (x, v) -> ask.of(x, v, least), UNKNOWN);
        in.callless.refuse(name + ", no CALLS", x -> ask.of(x, 0, least), UNKNOWN);
        in.fresh.refuse(name + ", UNKNOWN ahead of STATE", x -> ask.of(x, 0, least), UNKNOWN);
        in.cabinless.refuse(name + ", UNKNOWN ahead of STATE, with CALLS", x -> ask.of(x, 3, least), UNKNOWN);
        in.some.refuse(name + ", UNKNOWN ahead of OUTSIDE", x -> ask.of(x, 2, most + 1), UNKNOWN);
        in.fresh.refuse(name + ", UNKNOWN ahead of both", x -> ask.of(x, -1, least - 1), UNKNOWN);
        in.cabinless.refuse(name + ", STATE", x -> ask.of(x, 2, least), STATE);
        in.cabinless.refuse(name + ", STATE ahead of OUTSIDE", x -> ask.of(x, 2, most + 1), STATE);
    }

    private void refusedByAll() {
        said.terms("Ahead of the calls `order`, `board`, `sits`, `stands`, `least`, `bestOrder`, `swap`, `later`, `bound`, "
            + "`doors`, `mixed` the interface says: ---- boarding (UNKNOWN: call; STATE: no CABIN)");
        in.cabinless.refuse("order", x -> x.order(0, 0), STATE);
        in.cabinless.refuse("board", x -> x.board(0, 0), STATE);
        in.cabinless.refuse("stands", x -> x.stands(0, 1, 0), STATE);
        in.cabinless.refuse("least", RowsIntoPlane::least, STATE);
        in.cabinless.refuse("bestOrder", x -> x.bestOrder(0), STATE);
        in.cabinless.refuse("swap", x -> x.swap(0), STATE);
        in.cabinless.refuse("bound", x -> x.bound(0, 0), STATE);
        in.cabinless.refuse("doors", x -> x.doors(0), STATE);
        in.cabinless.refuse("mixed", x -> x.mixed(1, 0, 0), STATE);
        said.promise(19, "BOUND. UNKNOWN; STATE; OUTSIDE: bags (0 to 3).");
        refusals("bound", 0, 3, (x, call, bags) -> x.bound(call, bags));
    }
}
