/** What the document says of OUT and STAY, and promises 22 to 25, at their edges; all worked out by hand. */
final class OutSentences {
    private static final int NONE = RowsIntoPlane.NONE, UNKNOWN = RowsIntoPlane.UNKNOWN;
    private static final int OUTSIDE = RowsIntoPlane.OUTSIDE, STATE = RowsIntoPlane.STATE;

    private final Said said;
    private final Histories in;

    OutSentences(Said said, Histories histories) {
        this.said = said;
        in = histories;
    }

    void test() {
        fromCellZero();
        rowByRow();
        nearestTheAisle();
        busy();
        byDepth();
        byRow();
        out();
        outOf();
        missed();
        price();
        stay();
        stayRefused();
    }

    private static RowsIntoPlane plane(int rows, int wide) {
        RowsIntoPlane x = new RowsIntoPlane();
        x.cabin(rows, wide, 0);
        return x;
    }

    private void outIs(RowsIntoPlane x, int manner, int... want) {
        for (int i = 0; i < want.length; i++) {
            said.is(i + " by MANNER " + manner, x.outOf(i, manner), want[i]);
        }
    }

    private void fromCellZero() {
        said.terms("OUT, second by second, all SIT: in each one first those in the aisle, from CELL 0 on: who is BUSY has "
            + "one second less to go; else from CELL 0 one goes OUT, from another one to the CELL ahead, if that is empty.");
        RowsIntoPlane x = plane(3, 1);
        Due.seat(x, 0, 0, 0, 0);
        Due.seat(x, 1, 0, 0, 0);
        Due.seat(x, 2, 0, 0, 0);
        // All are up in 1; in 2 each goes into the cell that the one ahead has just left.
        outIs(x, 0, 2, 3, 4);
        x.change(0, 5, 1);
        // 0 is busy in 2 and 3, and out in 4; the others stand till then.
        outIs(x, 0, 4, 5, 6);
        x.change(0, 5, 0);
        x.change(1, 5, 3);
        // 1 is busy from 2 to 7, in cell 0 in 8; 2 is just behind it.
        outIs(x, 0, 2, 9, 10);
    }

    private void rowByRow() {
        said.terms("Then, ROW by ROW from 0, if the CELL of the ROW is empty, the one who SITS there that MAY");
        RowsIntoPlane x = plane(2, 1);
        Due.seat(x, 1, 0, 0, 0);
        Due.seat(x, 1, 1, 0, 0);
        Due.seat(x, 0, 0, 0, 0);
        Due.seat(x, 0, 1, 0, 0);
        // 2 and 0 are up in 1; in 2 2 is out and 0 in its cell, so 3 sits on, and 1 gets up; so again in 3.
        outIs(x, 0, 3, 4, 2, 5);
        RowsIntoPlane y = plane(2, 1);
        Due.seat(y, 1, 0, 0, 0);
        // Nobody is in the way: up in 1, in cell 0 in 2.
        outIs(y, 0, 3);
    }

    private void nearestTheAisle() {
        said.terms("of least DEPTH (of like ones SIDE 0), comes into it");
        RowsIntoPlane x = plane(2, 3);
        Due.seat(x, 0, 1, 2, 0);
        Due.seat(x, 0, 0, 2, 0);
        Due.seat(x, 0, 1, 1, 0);
        Due.seat(x, 0, 0, 1, 0);
        Due.seat(x, 0, 1, 0, 0);
        Due.seat(x, 0, 0, 0, 0);
        for (int manner = 0; manner <= 2; manner++) {
            outIs(x, manner, 7, 6, 5, 4, 3, 2);
        }
    }

    private void busy() {
        said.terms("BUSY for twice BAGS");
        RowsIntoPlane x = plane(2, 1);
        Due.seat(x, 0, 0, 0, 0);
        for (int bags = 0; bags <= 3; bags++) {
            x.change(0, 5, bags);
            for (int manner = 0; manner <= 2; manner++) {
                outIs(x, manner, 2 + 2 * bags);
            }
        }
    }

    private void byDepth() {
        said.terms("By MANNER 0 all MAY; by MANNER 1 those alone of the least DEPTH that anybody who SITS has (in any ROW, "
            + "as all SIT when those in the aisle have gone on)");
        RowsIntoPlane x = plane(3, 3);
        Due.seat(x, 0, 0, 0, 0);
        Due.seat(x, 1, 0, 1, 0);
        Due.seat(x, 2, 0, 2, 0);
        outIs(x, 0, 2, 3, 4);
        // 0 is up in 1, 1 in 2, 2 in 3: though 0 was up when the turn came to row 1.
        outIs(x, 1, 2, 4, 6);
        RowsIntoPlane y = plane(2, 2);
        Due.seat(y, 0, 0, 1, 0);
        Due.seat(y, 0, 0, 0, 3);
        Due.seat(y, 1, 0, 0, 0);
        Due.seat(y, 1, 1, 0, 0);
        // 1 and 2 are up in 1; 1 is busy from 2 to 7, out in 8, when 2 goes on and 3 gets up: 0 may from 9 on, but
        // 3 is in its cell then; 2 is out in 9, 3 in 10.
        outIs(y, 1, 11, 8, 9, 10);
        said.is("one who stands in the aisle does not SIT", y.out(1), 11);
    }

    private void byRow() {
        said.terms("by MANNER 2 likewise of the least ROW");
        RowsIntoPlane x = plane(3, 2);
        Due.seat(x, 0, 0, 0, 0);
        Due.seat(x, 0, 0, 1, 0);
        Due.seat(x, 1, 0, 0, 0);
        Due.seat(x, 2, 0, 0, 0);
        // 0 up in 1, out in 2, when 1 gets up; 1 out in 3. Row 1 may from 3 on: 2 is up in 3, out in 5.
        // Row 2 may from 4 on: 3 is up in 4, in cell 1 in 5, in cell 0 in 6, out in 7.
        outIs(x, 2, 2, 3, 5, 7);
    }

    private void out() {
        said.promise(22, "The second in which the last one goes OUT (0: nobody).");
        for (int manner = 0; manner <= 2; manner++) {
            said.is("nobody", in.nobody.made().out(manner), 0);
        }
        RowsIntoPlane x = plane(2, 1);
        Due.seat(x, 0, 0, 0, 3);
        said.is("one", x.out(0), 8);
        Due.seat(x, 1, 0, 0, 0);
        said.is("the second one is the last", x.out(0), 9);
        RowsIntoPlane y = plane(2, 1);
        Due.seat(y, 1, 0, 0, 0);
        Due.seat(y, 0, 0, 0, 0);
        said.is("the first one is the last", y.out(0), 3);
        y.cabin(2, 1, 0);
        said.is("nobody any more", y.out(0), 0);
        said.promise(22, "STATE: no CABIN; OUTSIDE: manner (0 to 2).");
        mannerRefused((z, v) -> z.out(v));
    }

    /** STATE, then OUTSIDE. */
    private void mannerRefused(Twins.Ask ask) {
        in.some.bounds("manner", 0, 2, ask, OUTSIDE);
        in.nobody.bounds("manner, nobody", 0, 2, ask, OUTSIDE);
        in.full.bounds("manner", 0, 2, ask, OUTSIDE);
        in.fresh.refuse("no CABIN", x -> ask.of(x, 0), STATE);
        in.cabinless.refuse("no CABIN, with CALLS", x -> ask.of(x, 2), STATE);
        in.fresh.refuse("no CABIN ahead of OUTSIDE", x -> ask.of(x, 3), STATE);
        in.fresh.refuse("no CABIN ahead of OUTSIDE, too small", x -> ask.of(x, -1), STATE);
    }

    private void outOf() {
        said.promise(23, "The second in which a PERSON goes OUT.");
        RowsIntoPlane y = plane(12, 1);
        Due.seat(y, 11, 0, 0, 0);
        outIs(y, 0, 13);
        Due.seat(y, 0, 0, 0, 0);
        outIs(y, 0, 13, 2);
        outIs(y, 2, 14, 2);
        said.promise(23, "UNKNOWN; OUTSIDE: manner.");
        in.some.bounds("person", 0, 4, (x, v) -> x.outOf(v, 0), UNKNOWN);
        in.full.bounds("person", 0, 11, (x, v) -> x.outOf(v, 2), UNKNOWN);
        in.some.bounds("manner", 0, 2, (x, v) -> x.outOf(4, v), OUTSIDE);
        in.fresh.refuse("no CABIN, so no PEOPLE", x -> x.outOf(0, 0), UNKNOWN);
        in.nobody.refuse("nobody", x -> x.outOf(0, 0), UNKNOWN);
        in.some.refuse("UNKNOWN ahead of OUTSIDE", x -> x.outOf(5, 3), UNKNOWN);
        in.fresh.refuse("UNKNOWN ahead of OUTSIDE, no CABIN", x -> x.outOf(-1, -1), UNKNOWN);
    }

    private void missed() {
        said.terms("MISSED by a MANNER: those who go OUT later than their WORTH tells (as a second).");
        RowsIntoPlane x = plane(2, 1);
        x.person(0, NONE, 0, 0, 0, 0, 2);
        said.is("as its WORTH tells", x.missed(0), 0);
        x.change(0, 6, 1);
        said.is("a second later", x.missed(0), 1);
        x.change(0, 6, 3);
        said.is("a second sooner", x.missed(0), 0);
        x.change(0, 6, 0);
        said.is("of no WORTH", x.missed(0), 1);
        RowsIntoPlane y = plane(12, 1);
        for (int row = 0; row < 12; row++) {
            y.person(0, NONE, row, 0, 0, 0, 0);
        }
        said.is("all twelve", y.missed(0), 4095);
        for (int row = 0; row < 11; row++) {
            y.change(row, 6, 999);
        }
        said.is("the last alone", y.missed(2), 2048);
        said.promise(24, "MISSED, as bits of PEOPLE.");
        said.is("nobody", in.nobody.made().missed(1), 0);
        // The one of row r is out in r + 2 by manner 0, and by manner 2 in twice r and 2.
        for (int row = 0; row < 12; row++) {
            y.change(row, 6, row + 2);
        }
        said.is("none", y.missed(0), 0);
        said.is("all but the first", y.missed(2), 4094);
        said.promise(24, "STATE; OUTSIDE.");
        mannerRefused((z, v) -> z.missed(v));
    }

    private void price() {
        said.terms("STAY: of n who should stay behind, by a PRICE that begins at 0 and rises by a STEP (1 to 99) each "
            + "time, until n PEOPLE at least have no more WORTH than it: that PRICE, and PRICE times n.");
        RowsIntoPlane x = plane(12, 1);
        x.person(0, NONE, 0, 0, 0, 0, 0);
        said.is("it begins at 0", x.stay(1, 99, 0), 0);
        x.change(0, 6, 1);
        said.is("no less than 1, by 1", x.stay(1, 1, 0), 1);
        said.is("no less than 1, by 99", x.stay(1, 99, 0), 99);
        x.change(0, 6, 99);
        said.is("as much as its WORTH", x.stay(1, 99, 0), 99);
        x.change(0, 6, 100);
        said.is("one more than a STEP", x.stay(1, 99, 0), 198);
        x.change(0, 6, 999);
        said.is("the greatest, by 1", x.stay(1, 1, 0), 999);
        said.is("the greatest, by 99", x.stay(1, 99, 0), 1089);
        said.is("the greatest, by 3", x.stay(1, 3, 0), 999);
        said.is("the greatest, by 2", x.stay(1, 2, 0), 1000);
        x.person(0, NONE, 1, 0, 0, 0, 20);
        x.person(0, NONE, 2, 0, 0, 0, 20);
        x.person(0, NONE, 3, 0, 0, 0, 21);
        said.is("two at least, as there are two of 20", x.stay(1, 10, 0), 20);
        said.is("two of 20", x.stay(2, 10, 0), 20);
        said.is("three", x.stay(3, 10, 0), 30);
        said.is("three, PRICE times n", x.stay(3, 10, 1), 90);
    }

    private void stay() {
        said.promise(25, "STAY: what = 0 the PRICE, 1 PRICE times n; NONE: there are fewer than n PEOPLE.");
        said.is("no CABIN", new RowsIntoPlane().stay(1, 1, 0), NONE);
        said.is("nobody", in.nobody.made().stay(1, 1, 1), NONE);
        RowsIntoPlane x = plane(12, 1);
        for (int row = 0; row < 12; row++) {
            said.is("one fewer than " + (row + 1), x.stay(row + 1, 1, 0), NONE);
            said.is("one fewer, times n", x.stay(row + 1, 1, 1), NONE);
            x.person(0, NONE, row, 0, 0, 0, 999);
            said.is(row + 1 + " of as many", x.stay(row + 1, 99, 0), 1089);
            said.is(row + 1 + " of as many, times n", x.stay(row + 1, 99, 1), 1089 * (row + 1));
        }
    }

    private void stayRefused() {
        said.promise(25, "OUTSIDE: n (1 to 12), step, what.");
        for (Twins twins : new Twins[] {in.fresh, in.cabinless, in.nobody, in.some, in.full}) {
            twins.bounds("n", 1, 12, (x, v) -> x.stay(v, 1, 0), OUTSIDE);
            twins.bounds("step", 1, 99, (x, v) -> x.stay(1, v, 0), OUTSIDE);
            twins.bounds("what", 0, 1, (x, v) -> x.stay(1, 1, v), OUTSIDE);
            twins.refuse("step, with too few PEOPLE for NONE", x -> x.stay(12, 0, 0), OUTSIDE);
            twins.refuse("what, with too few PEOPLE for NONE", x -> x.stay(12, 1, 2), OUTSIDE);
        }
    }
}
