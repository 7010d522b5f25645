/** What the document says of THE CABIN and PEOPLE, and promises 1 to 6, at their edges. */
final class CabinSentences {
    private static final int NONE = RowsIntoPlane.NONE, UNKNOWN = RowsIntoPlane.UNKNOWN;
    private static final int OUTSIDE = RowsIntoPlane.OUTSIDE, STATE = RowsIntoPlane.STATE;
    private static final int FULL = RowsIntoPlane.FULL;

    private final Said said;
    private final Histories in;

    CabinSentences(Said said, Histories histories) {
        this.said = said;
        in = histories;
    }

    void test() {
        rows();
        wide();
        room();
        cells();
        people();
        kinds();
        seats();
        newObject();
        cabin();
        personWithoutCabin();
        personKind();
        personWith();
        personOutside();
        personSeat();
        personFull();
        as();
        about();
        change();
    }

    private static RowsIntoPlane plane(int rows, int wide, int room) {
        RowsIntoPlane x = new RowsIntoPlane();
        x.cabin(rows, wide, room);
        return x;
    }

    private void rows() {
        said.terms("THE CABIN has ROWS (2 to 12, numbered from 0, the door is ahead of ROW 0)");
        in.fresh.bounds("ROWS", 2, 12, (x, v) -> x.cabin(v, 1, 0), OUTSIDE);
        for (int rows = 2; rows <= 12; rows++) {
            RowsIntoPlane x = plane(rows, 1, 0);
            Due.call(x, "w");
            said.is("count(0)", x.count(0), rows);
            said.is("ROW -1 of " + rows, Due.seat(x, -1, 0, 0, 0), OUTSIDE);
            said.is("a ROW behind the last of " + rows, Due.seat(x, rows, 0, 0, 0), OUTSIDE);
            said.is("the last ROW of " + rows, Due.seat(x, rows - 1, 0, 0, 0), 0);
            // It comes into CELL 0 in second 1, and goes on by one a second.
            said.is("the last ROW is " + (rows - 1) + " ahead", x.board(0, 0), rows + 1);
            said.is("it comes by CELL 0", x.stands(0, 1, 0), 0);
            said.is("ROW 0 of " + rows, Due.seat(x, 0, 0, 0, 0), 1);
        }
    }

    private void wide() {
        said.terms("WIDE (1 to 3: seats of a ROW on each side, by DEPTH:");
        in.fresh.bounds("WIDE", 1, 3, (x, v) -> x.cabin(2, v, 0), OUTSIDE);
        for (int wide = 1; wide <= 3; wide++) {
            said.is("seats by " + wide, plane(2, wide, 0).count(1), 2 * 2 * wide);
        }
        said.terms("0 at the aisle, WIDE less 1 at the window)");
        for (int wide = 1; wide <= 3; wide++) {
            RowsIntoPlane x = plane(2, wide, 0);
            for (int side = 0; side <= 1; side++) {
                said.is("DEPTH -1 of " + wide, Due.seat(x, 0, side, -1, 0), OUTSIDE);
                said.is("DEPTH " + wide + " of as many", Due.seat(x, 0, side, wide, 0), OUTSIDE);
                for (int depth = 0; depth < wide; depth++) {
                    said.is("DEPTH " + depth + " of " + wide, Due.seat(x, 0, side, depth, 0), side * wide + depth);
                }
            }
        }
        RowsIntoPlane x = plane(2, 3, 0);
        Due.call(x, "a");
        Due.seat(x, 0, 0, 2, 0);
        Due.seat(x, 0, 0, 0, 0);
        // 1, at the aisle, sits in 2 and gets up again for 0: from 3 to 6.
        said.is("0 is at the aisle", x.sits(0, 0, 0), 6);
    }

    private void room() {
        said.terms("ROOM (0 to 6: for so many bags in the BIN of each ROW)");
        in.fresh.bounds("ROOM", 0, 6, (x, v) -> x.cabin(2, 1, v), OUTSIDE);
        for (int room = 0; room <= 6; room++) {
            RowsIntoPlane x = plane(2, 3, room);
            Due.call(x, "f1");
            for (int i = 0; i < 6; i++) {
                Due.seat(x, 0, i % 2, i / 2, 3);
            }
            int[] bags = new int[2];
            for (int i = 0; i < 18; i++) {
                int bin = x.sits(0, i / 3, 2 + i % 3);
                if (bin >= 0 && bin <= 1) {
                    bags[bin]++;
                }
            }
            said.is("BIN 0 by ROOM " + room, bags[0], room);
            said.is("BIN 1 by ROOM " + room, bags[1], room);
            said.is("BELOW by ROOM " + room, x.board(0, 1), 18 - 2 * room);
            said.is("count(2)", x.count(2), room);
        }
    }

    private void cells() {
        said.terms("The aisle has a CELL for each ROW.");
        for (int rows : new int[] {2, 7, 12}) {
            RowsIntoPlane x = plane(rows, 1, 0);
            Due.call(x, "w");
            Due.seat(x, rows - 1, 0, 0, 0);
            said.is("the first CELL", x.stands(0, 1, 0), 0);
            said.is("the last CELL", x.stands(0, rows, rows - 1), 0);
            said.is("one behind it", x.stands(0, rows, rows), OUTSIDE);
            said.is("one ahead of the first", x.stands(0, 1, -1), OUTSIDE);
        }
    }

    private void people() {
        said.terms("PEOPLE (12 at most, numbered)");
        RowsIntoPlane x = plane(12, 1, 0);
        for (int i = 0; i < 12; i++) {
            said.is("the number", Due.seat(x, i, 0, 0, 1), i);
            said.is("how many", x.count(3), i + 1);
        }
        said.is("a thirteenth", Due.seat(x, 0, 1, 0, 1), FULL);
        said.is("twelve", x.count(3), 12);
        said.terms("of a ROW, a SIDE (0, 1), a DEPTH, with BAGS (0 to 3), and a WORTH (0 to 999)");
        in.some.bounds("SIDE", 0, 1, (y, v) -> y.person(0, NONE, 1, v, 0, 0, 0), OUTSIDE);
        in.some.bounds("BAGS", 0, 3, (y, v) -> y.person(0, NONE, 1, 0, 0, v, 0), OUTSIDE);
        in.some.bounds("WORTH", 0, 999, (y, v) -> y.person(0, NONE, 1, 0, 0, 0, v), OUTSIDE);
    }

    private void kinds() {
        said.terms("are of KINDS: 0 PERSON, 1 LATE, 2 HASTY, 3 GROUPED");
        in.some.bounds("KIND", 0, 3, (y, v) -> y.person(v, v == 3 ? 4 : NONE, 1, 0, 0, 0, 0), OUTSIDE);
        in.some.bounds("KIND to be taken as", 0, 3, (y, v) -> y.as(4, v), OUTSIDE);
        said.terms("a GROUPED is with a PERSON told ahead, n");
        RowsIntoPlane x = plane(4, 1, 0);
        said.is("with itself, as the first", x.person(3, 0, 0, 0, 0, 0, 0), UNKNOWN);
        Due.seat(x, 0, 0, 0, 0);
        said.is("with itself, as the second", x.person(3, 1, 1, 0, 0, 0, 0), UNKNOWN);
        said.is("with the one ahead", x.person(3, 0, 1, 0, 0, 0, 0), 1);
        said.is("with a GROUPED", x.person(3, 1, 2, 0, 0, 0, 0), 2);
        said.is("with one who comes later", x.person(3, 4, 3, 0, 0, 0, 0), UNKNOWN);
        said.terms("All are PERSONS; a GROUPED is HASTY, too (by the cast alone)");
        said.is("a GROUPED as a PERSON", x.as(1, 0), 1);
        said.is("a GROUPED as a HASTY", x.as(1, 2), 1);
        said.is("what it is told as", x.about(1, 0), 3);
        x.person(2, NONE, 3, 0, 0, 0, 0);
        said.is("a HASTY is no GROUPED", x.as(3, 3), NONE);
        Due.call(x, "f1");
        said.is("ahead of a GROUPED", x.order(0, 0), 3);
        said.is("a GROUPED is not ahead of its PERSON", x.order(0, 1), 0);
    }

    private void seats() {
        said.terms("No two have one seat");
        for (int kind = 0; kind <= 3; kind++) {
            int taken = kind;
            in.some.refuse("a seat of another, by KIND " + kind,
                x -> x.person(taken, taken == 3 ? 0 : NONE, 4, 0, 2, 0, 0), STATE);
        }
        RowsIntoPlane x = in.some.made();
        said.is("the ROW ahead", Due.seat(x, 3, 0, 2, 0), 5);
        said.is("the other SIDE", Due.seat(x, 4, 1, 2, 0), 6);
        said.is("the next DEPTH", Due.seat(x, 4, 0, 1, 0), 7);
        x.restore();
        said.is("a seat of one who is gone", Due.seat(x, 4, 0, 1, 0), 3);
    }

    private void newObject() {
        said.promise(1, "No CABIN, no PEOPLE, no CALLS");
        RowsIntoPlane x = new RowsIntoPlane();
        for (int what = 0; what <= 8; what++) {
            said.is("count(" + what + ")", x.count(what), 0);
        }
        said.is("no CABIN", x.out(0), STATE);
        said.is("no CABIN to keep", x.image(), STATE);
        said.is("no PEOPLE", x.about(0, 0), UNKNOWN);
        said.is("no CALLS", x.order(0, 0), UNKNOWN);
        said.is("no letters", x.blank(), 0);
        said.is("nothing kept", x.restore(), STATE);
        x.cabin(2, 1, 0);
        said.is("no PEOPLE in its first CABIN", x.about(0, 0), UNKNOWN);
        said.is("no CALLS with its first CABIN", x.least(), NONE);
    }

    private void cabin() {
        said.promise(2, "THE CABIN (another one is gone, with PEOPLE): how many seats.");
        said.is("the least", new RowsIntoPlane().cabin(2, 1, 0), 4);
        said.is("the greatest", new RowsIntoPlane().cabin(12, 3, 6), 72);
        RowsIntoPlane x = in.full.made();
        said.is("another one", x.cabin(2, 2, 6), 8);
        said.is("its ROWS", x.count(0), 2);
        said.is("its seats", x.count(1), 8);
        said.is("its ROOM", x.count(2), 6);
        said.is("nobody", x.count(3), 0);
        said.is("who was the first", x.about(0, 0), UNKNOWN);
        said.is("who was the last", x.about(11, 0), UNKNOWN);
        said.is("no BAGS", x.count(8), 0);
        said.is("CALLS stay", x.count(4), 8);
        said.is("THE PAGE stays", x.count(5), 16);
        said.is("bestOrder() stays done", x.count(7), 20);
        said.is("two CABINS there were", x.count(6), 2);
        said.is("a seat that was taken", Due.seat(x, 0, 0, 0, 0), 0);
        said.is("the last ROW is another now", Due.seat(x, 2, 0, 0, 0), OUTSIDE);
        said.promise(2, "OUTSIDE: rows, wide, room.");
        for (Twins twins : new Twins[] {in.fresh, in.cabinless, in.some, in.full}) {
            twins.bounds("rows", 2, 12, (y, v) -> y.cabin(v, 2, 3), OUTSIDE);
            twins.bounds("wide", 1, 3, (y, v) -> y.cabin(6, v, 3), OUTSIDE);
            twins.bounds("room", 0, 6, (y, v) -> y.cabin(6, 2, v), OUTSIDE);
            twins.refuse("all of them", y -> y.cabin(1, 4, 7), OUTSIDE);
        }
    }

    private void personWithoutCabin() {
        said.promise(3, "A PERSON: its number. STATE: no CABIN;");
        for (Twins twins : new Twins[] {in.fresh, in.cabinless}) {
            twins.refuse("all as told", x -> x.person(0, NONE, 0, 0, 0, 0, 0), STATE);
            twins.refuse("ahead of kind", x -> x.person(4, NONE, 0, 0, 0, 0, 0), STATE);
            twins.refuse("ahead of n", x -> x.person(3, 0, 0, 0, 0, 0, 0), STATE);
            twins.refuse("ahead of n of others", x -> x.person(0, 0, 0, 0, 0, 0, 0), STATE);
            twins.refuse("ahead of row", x -> x.person(0, NONE, -1, 0, 0, 0, 0), STATE);
            twins.refuse("ahead of worth", x -> x.person(0, NONE, 0, 0, 0, 0, 1000), STATE);
        }
        said.is("with a CABIN", in.nobody.made().person(0, NONE, 0, 0, 0, 0, 0), 0);
    }

    private void personKind() {
        said.promise(3, "OUTSIDE: kind;");
        in.some.bounds("kind", 0, 3, (x, v) -> x.person(v, v == 3 ? 0 : NONE, 1, 0, 0, 0, 0), OUTSIDE);
        in.some.refuse("ahead of n", x -> x.person(4, 9, 1, 0, 0, 0, 0), OUTSIDE);
        in.some.refuse("ahead of n, too small", x -> x.person(-1, 0, 1, 0, 0, 0, 0), OUTSIDE);
        in.some.refuse("ahead of the seat", x -> x.person(4, NONE, 4, 0, 2, 0, 0), OUTSIDE);
        in.full.refuse("ahead of FULL", x -> x.person(4, NONE, 0, 1, 0, 0, 0), OUTSIDE);
    }

    private void personWith() {
        said.promise(3, "UNKNOWN: n (of a GROUPED a PERSON told ahead; NONE else);");
        in.some.bounds("n of a GROUPED", 0, 4, (x, v) -> x.person(3, v, 1, 0, 0, 0, 0), UNKNOWN);
        in.nobody.refuse("the first is with nobody", x -> x.person(3, 0, 1, 0, 0, 0, 0), UNKNOWN);
        in.some.refuse("one who was told ahead in full alone", x -> x.person(3, 11, 1, 0, 0, 0, 0), UNKNOWN);
        for (int kind = 0; kind <= 2; kind++) {
            int other = kind;
            in.some.bounds("n of KIND " + kind, NONE, NONE, (x, v) -> x.person(other, v, 1, 0, 0, 0, 0), UNKNOWN);
            in.some.refuse("n of KIND " + kind + " is a PERSON", x -> x.person(other, 4, 1, 0, 0, 0, 0), UNKNOWN);
        }
        in.some.refuse("ahead of row", x -> x.person(3, 5, 5, 0, 0, 0, 0), UNKNOWN);
        in.some.refuse("ahead of side", x -> x.person(3, 5, 1, 2, 0, 0, 0), UNKNOWN);
        in.some.refuse("ahead of depth", x -> x.person(3, 5, 1, 0, 3, 0, 0), UNKNOWN);
        in.some.refuse("ahead of bags", x -> x.person(3, 5, 1, 0, 0, 4, 0), UNKNOWN);
        in.some.refuse("ahead of worth", x -> x.person(0, 0, 1, 0, 0, 0, 1000), UNKNOWN);
        in.some.refuse("ahead of the seat", x -> x.person(0, 0, 4, 0, 2, 0, 0), UNKNOWN);
        in.full.refuse("ahead of FULL", x -> x.person(3, 12, 0, 1, 0, 0, 0), UNKNOWN);
        in.full.refuse("of others ahead of FULL", x -> x.person(0, 0, 0, 1, 0, 0, 0), UNKNOWN);
    }

    private void personOutside() {
        said.promise(3, "OUTSIDE: row, side, depth, bags, worth;");
        in.some.bounds("row", 0, 4, (x, v) -> x.person(0, NONE, v, 1, 1, 0, 0), OUTSIDE);
        in.some.bounds("side", 0, 1, (x, v) -> x.person(0, NONE, 1, v, 1, 0, 0), OUTSIDE);
        in.some.bounds("depth", 0, 2, (x, v) -> x.person(0, NONE, 1, 1, v, 0, 0), OUTSIDE);
        in.nobody.bounds("depth", 0, 1, (x, v) -> x.person(0, NONE, 1, 1, v, 0, 0), OUTSIDE);
        in.some.bounds("bags", 0, 3, (x, v) -> x.person(0, NONE, 1, 1, 1, v, 0), OUTSIDE);
        in.some.bounds("worth", 0, 999, (x, v) -> x.person(0, NONE, 1, 1, 1, 0, v), OUTSIDE);
        in.some.refuse("bags ahead of the seat", x -> x.person(0, NONE, 4, 0, 2, 4, 0), OUTSIDE);
        in.some.refuse("worth ahead of the seat", x -> x.person(0, NONE, 4, 0, 2, 0, 1000), OUTSIDE);
        in.full.refuse("row ahead of FULL", x -> x.person(0, NONE, 12, 1, 0, 0, 0), OUTSIDE);
        in.full.refuse("side ahead of FULL", x -> x.person(0, NONE, 0, 2, 0, 0, 0), OUTSIDE);
        in.full.refuse("depth ahead of FULL", x -> x.person(0, NONE, 0, 1, 3, 0, 0), OUTSIDE);
        in.full.refuse("bags ahead of FULL", x -> x.person(0, NONE, 0, 1, 0, 4, 0), OUTSIDE);
        in.full.refuse("worth ahead of FULL", x -> x.person(0, NONE, 0, 1, 0, 0, 1000), OUTSIDE);
    }

    private void personSeat() {
        said.promise(3, "STATE: the seat is taken;");
        in.some.refuse("by the first", x -> x.person(0, NONE, 4, 0, 2, 0, 0), STATE);
        in.some.refuse("by the last", x -> x.person(0, NONE, 3, 1, 2, 0, 0), STATE);
        in.full.refuse("by the first, ahead of FULL", x -> x.person(0, NONE, 0, 0, 0, 0, 0), STATE);
        in.full.refuse("by the last, ahead of FULL", x -> x.person(0, NONE, 11, 1, 2, 0, 0), STATE);
        said.is("in another CABIN it is free", in.another.made().person(0, NONE, 3, 0, 0, 0, 0), 2);
    }

    private void personFull() {
        said.promise(3, "STATE: the seat is taken; FULL.");
        in.full.refuse("a free seat", x -> x.person(0, NONE, 0, 1, 0, 0, 0), FULL);
        in.full.refuse("a GROUPED", x -> x.person(3, 11, 0, 1, 0, 0, 0), FULL);
        RowsIntoPlane x = plane(2, 3, 0);
        for (int i = 0; i < 12; i++) {
            said.is("all seats", Due.seat(x, i / 6, i % 2, i / 2 % 3, 0), i);
        }
        said.is("no seat is left", Due.seat(x, 1, 1, 2, 0), STATE);
    }

    private void as() {
        said.promise(4, "A PERSON taken as a KIND: its number; NONE: it is none such (the cast fails).");
        int[][] may = {{0}, {0, 1}, {0, 2}, {0, 2, 3}};
        RowsIntoPlane x = plane(4, 1, 0);
        for (int kind = 0; kind <= 3; kind++) {
            x.person(kind, kind == 3 ? 0 : NONE, kind, 0, 0, 0, 0);
            for (int as = 0; as <= 3; as++) {
                boolean is = java.util.Arrays.binarySearch(may[kind], as) >= 0;
                said.is("KIND " + kind + " as " + as, x.as(kind, as), is ? kind : NONE);
            }
        }
        said.promise(4, "UNKNOWN; OUTSIDE.");
        in.some.bounds("person", 0, 4, (y, v) -> y.as(v, 0), UNKNOWN);
        in.full.bounds("person", 0, 11, (y, v) -> y.as(v, 0), UNKNOWN);
        in.some.bounds("kind", 0, 3, (y, v) -> y.as(4, v), OUTSIDE);
        in.fresh.refuse("no PEOPLE", y -> y.as(0, 0), UNKNOWN);
        in.nobody.refuse("nobody", y -> y.as(0, 0), UNKNOWN);
        in.some.refuse("both", y -> y.as(5, 4), UNKNOWN);
        in.some.refuse("both, too small", y -> y.as(-1, -1), UNKNOWN);
    }

    private void about() {
        said.promise(5, "Of a PERSON: what = 0 KIND, 1 n (NONE), 2 ROW, 3 SIDE, 4 DEPTH, 5 BAGS, 6 WORTH.");
        RowsIntoPlane x = plane(12, 3, 0);
        int[][] told = {{0, NONE, 0, 0, 0, 0, 0}, {1, NONE, 11, 1, 2, 3, 999}, {2, NONE, 5, 0, 1, 1, 1},
            {3, 2, 11, 0, 2, 2, 998}};
        for (int[] t : told) {
            int person = x.person(t[0], t[1], t[2], t[3], t[4], t[5], t[6]);
            for (int what = 0; what <= 6; what++) {
                said.is("about(" + person + ", " + what + ")", x.about(person, what), t[what]);
            }
        }
        said.promise(5, "UNKNOWN; OUTSIDE.");
        in.some.bounds("person", 0, 4, (y, v) -> y.about(v, 0), UNKNOWN);
        in.full.bounds("person", 0, 11, (y, v) -> y.about(v, 6), UNKNOWN);
        in.some.bounds("what", 0, 6, (y, v) -> y.about(4, v), OUTSIDE);
        in.fresh.refuse("no PEOPLE", y -> y.about(0, 0), UNKNOWN);
        in.nobody.refuse("nobody", y -> y.about(0, 0), UNKNOWN);
        in.some.refuse("both", y -> y.about(5, 7), UNKNOWN);
        in.some.refuse("both, too small", y -> y.about(-1, -1), UNKNOWN);
    }

    private void change() {
        said.promise(6, "BAGS (what = 5), WORTH (6) become v: what it was.");
        RowsIntoPlane x = in.some.made();
        said.is("BAGS", x.change(4, 5, 3), 1);
        said.is("BAGS again", x.change(4, 5, 0), 3);
        said.is("they are so", x.about(4, 5), 0);
        said.is("WORTH", x.change(4, 6, 999), 12);
        said.is("WORTH again", x.change(4, 6, 0), 999);
        said.is("it is so", x.about(4, 6), 0);
        said.is("another's BAGS are as they were", x.about(3, 5), 0);
        said.is("another's WORTH is as it was", x.about(2, 6), 8);
        said.promise(6, "UNKNOWN; OUTSIDE.");
        in.some.bounds("person", 0, 4, (y, v) -> y.change(v, 5, 1), UNKNOWN);
        in.full.bounds("person", 0, 11, (y, v) -> y.change(v, 6, 1), UNKNOWN);
        in.some.bounds("what", 5, 6, (y, v) -> y.change(4, v, 1), OUTSIDE);
        for (int what = 0; what <= 3; what++) {
            int other = what;
            in.some.refuse("what " + what, y -> y.change(4, other, 1), OUTSIDE);
        }
        in.some.bounds("v of BAGS", 0, 3, (y, v) -> y.change(4, 5, v), OUTSIDE);
        in.some.bounds("v of WORTH", 0, 999, (y, v) -> y.change(4, 6, v), OUTSIDE);
        in.fresh.refuse("no PEOPLE", y -> y.change(0, 5, 0), UNKNOWN);
        in.nobody.refuse("nobody", y -> y.change(0, 5, 0), UNKNOWN);
        in.some.refuse("person and what", y -> y.change(5, 4, 1), UNKNOWN);
        in.some.refuse("person and v", y -> y.change(-1, 5, 4), UNKNOWN);
    }
}
