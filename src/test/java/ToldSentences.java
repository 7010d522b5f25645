import java.math.BigInteger;
import java.util.ArrayList;
import java.util.List;

/** What the document says of IMAGES and refusals, and promises 26 to 29, at their edges. */
final class ToldSentences {
    private static final int NONE = RowsIntoPlane.NONE, UNKNOWN = RowsIntoPlane.UNKNOWN;
    private static final int OUTSIDE = RowsIntoPlane.OUTSIDE, STATE = RowsIntoPlane.STATE;
    private static final int FULL = RowsIntoPlane.FULL;
    private static final BigInteger LONGS = BigInteger.TWO.pow(64);

    private final Said said;
    private final Histories in;

    ToldSentences(Said said, Histories histories) {
        this.said = said;
        in = histories;
    }

    void test() {
        calls();
        imageKeeps();
        refusals();
        withoutCabin();
        image();
        restore();
        count();
        countRefused();
        digestOfAll();
        digestWraps();
        digestWithoutCabin();
    }

    private void calls() {
        said.terms("An object is used for at most 512 calls after it has been made");
        RowsIntoPlane x = new RowsIntoPlane();
        x.cabin(12, 3, 6);
        Due.call(x, "w");
        int asked = 4;
        while (asked < 511) {
            x.board(0, 0);
            asked++;
        }
        said.is("the last one is answered as the first", Due.seat(x, 0, 0, 0, 0), 0);
    }

    private void imageKeeps() {
        said.terms("An IMAGE keeps PEOPLE's BAGS and WORTH and how many there are (those that come since are gone by "
            + "restore()).");
        RowsIntoPlane x = new RowsIntoPlane();
        x.cabin(12, 1, 0);
        x.person(0, NONE, 0, 0, 0, 3, 999);
        x.image();
        for (int row = 1; row < 12; row++) {
            x.person(3, 0, row, 0, 0, 1, 1);
        }
        x.change(0, 5, 0);
        x.change(0, 6, 0);
        said.is("twelve", x.person(0, NONE, 0, 1, 0, 0, 0), FULL);
        said.is("restore", x.restore(), 1);
        said.is("BAGS", x.about(0, 5), 3);
        said.is("WORTH", x.about(0, 6), 999);
        said.is("those that came since", x.about(1, 0), UNKNOWN);
        said.is("how many", x.count(3), 1);
        said.is("BAGS of all", x.count(8), 3);
        said.is("a seat of one who is gone", x.person(0, NONE, 11, 0, 0, 0, 0), 1);
        said.is("it is another one", x.about(1, 0), 0);
    }

    private void refusals() {
        said.terms("Refusals, of several the first as told by each call: UNKNOWN (a number names nothing), OUTSIDE (it is "
            + "not as told), STATE (as told), FULL; they change nothing.");
        RowsIntoPlane x = in.full.made();
        long before = x.digest();
        for (int v : new int[] {-1, 99, Integer.MIN_VALUE, Integer.MAX_VALUE}) {
            refuseAll(x, v);
        }
        said.is("a PERSON more", x.person(0, NONE, 0, 1, 0, 0, 0), FULL);
        said.is("a letter more", x.letters(1L), FULL);
        said.is("no CALL", x.call(), STATE);
        said.is("one more of 20", x.bestOrder(0), STATE);
        said.is("all together change nothing", x.digest(), before);
        said.is("the IMAGE is as it was", x.restore(), 12);
        said.is("what it keeps, too", x.about(11, 5), 3);
    }

    private void refuseAll(RowsIntoPlane x, int v) {
        said.is("cabin", x.cabin(v, v, v), OUTSIDE);
        said.is("person", x.person(v, v, v, v, v, v, v), OUTSIDE);
        said.is("as", x.as(v, v), UNKNOWN);
        said.is("about", x.about(v, v), UNKNOWN);
        said.is("change", x.change(v, v, v), UNKNOWN);
        said.is("order", x.order(v, v), UNKNOWN);
        said.is("board", x.board(v, v), UNKNOWN);
        said.is("sits", x.sits(v, v, v), UNKNOWN);
        said.is("stands", x.stands(v, v, v), UNKNOWN);
        said.is("bestOrder", x.bestOrder(v), OUTSIDE);
        said.is("swap", x.swap(v), UNKNOWN);
        said.is("later", x.later(v, v), UNKNOWN);
        said.is("bound", x.bound(v, v), UNKNOWN);
        said.is("doors", x.doors(v), UNKNOWN);
        said.is("mixed", x.mixed(v, v, v), OUTSIDE);
        said.is("out", x.out(v), OUTSIDE);
        said.is("outOf", x.outOf(v, v), UNKNOWN);
        said.is("missed", x.missed(v), OUTSIDE);
        said.is("stay", x.stay(v, v, v), OUTSIDE);
        said.is("count", x.count(v), OUTSIDE);
    }

    private void withoutCabin() {
        said.terms("Without a CABIN: STATE, where it is told, behind UNKNOWN.");
        in.cabinless.refuse("person, where STATE is told first", x -> x.person(0, 9, 0, 0, 0, 0, 0), STATE);
        in.cabinless.refuse("order, behind UNKNOWN", x -> x.order(3, 99), UNKNOWN);
        in.cabinless.refuse("order", x -> x.order(2, 99), STATE);
        in.cabinless.refuse("board, behind UNKNOWN", x -> x.board(3, 99), UNKNOWN);
        in.cabinless.refuse("board", x -> x.board(2, 99), STATE);
        in.cabinless.refuse("sits, of nobody", x -> x.sits(0, 0, 99), UNKNOWN);
        in.cabinless.refuse("stands, behind UNKNOWN", x -> x.stands(3, 0, 0), UNKNOWN);
        in.cabinless.refuse("stands", x -> x.stands(2, 0, 0), STATE);
        in.cabinless.refuse("swap, behind UNKNOWN", x -> x.swap(3), UNKNOWN);
        in.cabinless.refuse("swap", x -> x.swap(2), STATE);
        in.cabinless.refuse("later, of nobody", x -> x.later(0, 0), UNKNOWN);
        in.cabinless.refuse("bound, behind UNKNOWN", x -> x.bound(3, 4), UNKNOWN);
        in.cabinless.refuse("bound", x -> x.bound(2, 4), STATE);
        in.cabinless.refuse("doors, behind UNKNOWN", x -> x.doors(3), UNKNOWN);
        in.cabinless.refuse("doors", x -> x.doors(2), STATE);
        in.cabinless.refuse("outOf, of nobody", x -> x.outOf(0, 3), UNKNOWN);
        said.is("stay, where it is not told", in.cabinless.made().stay(1, 1, 0), NONE);
        said.is("count, where it is not told", in.cabinless.made().count(0), 0);
        said.is("a CALL is read without one", Due.call(in.cabinless.made(), "w"), 3);
    }

    private void image() {
        said.promise(26, "An IMAGE is kept (one; the latest): how many PEOPLE.");
        RowsIntoPlane x = in.nobody.made();
        said.is("of nobody", x.image(), 0);
        Due.seat(x, 0, 0, 0, 1);
        said.is("restore of nobody", x.restore(), 0);
        Due.seat(x, 0, 0, 0, 1);
        said.is("of one", x.image(), 1);
        x.change(0, 5, 2);
        said.is("of one again", x.image(), 1);
        x.change(0, 5, 3);
        said.is("restore", x.restore(), 1);
        said.is("the latest", x.about(0, 5), 2);
        said.is("restore again", x.restore(), 1);
        said.is("twelve", in.full.made().image(), 12);
        said.promise(26, "STATE: there is no CABIN.");
        in.fresh.refuse("a new object", RowsIntoPlane::image, STATE);
        in.cabinless.refuse("with CALLS", RowsIntoPlane::image, STATE);
    }

    private void restore() {
        said.promise(27, "It goes on from the IMAGE: how many PEOPLE.");
        RowsIntoPlane x = in.some.made();
        said.is("restore", x.restore(), 3);
        said.is("BAGS", x.about(0, 5), 2);
        said.is("WORTH", x.about(2, 6), 999);
        said.is("who came since", x.about(3, 0), UNKNOWN);
        said.is("CALLS stay", x.count(4), 2);
        said.is("letters stay", x.count(5), 3);
        said.is("bestOrder() stays done", x.count(7), 1);
        said.is("and again", x.restore(), 3);
        x.cabin(1, 1, 0);
        said.is("behind a refused CABIN", x.restore(), 3);
        said.promise(27, "STATE: none was kept, or there is another CABIN since.");
        in.fresh.refuse("a new object", RowsIntoPlane::restore, STATE);
        in.cabinless.refuse("no CABIN", RowsIntoPlane::restore, STATE);
        in.nobody.refuse("none was kept, nobody", RowsIntoPlane::restore, STATE);
        in.callless.refuse("none was kept", RowsIntoPlane::restore, STATE);
        in.another.refuse("another CABIN", RowsIntoPlane::restore, STATE);
        RowsIntoPlane y = in.some.made();
        y.cabin(5, 3, 1);
        said.is("another CABIN just as it was", y.restore(), STATE);
        y.image();
        said.is("an IMAGE of that one", y.restore(), 0);
    }

    private void count() {
        said.promise(28, "How many: 0 ROWS, 1 seats, 2 ROOM, 3 PEOPLE, 4 CALLS, 5 letters of THE PAGE, 6 how many CABINS "
            + "there were, 7 how often bestOrder() was done, 8 BAGS of all.");
        countIs(in.fresh, 0, 0, 0, 0, 0, 0, 0, 0, 0);
        countIs(in.cabinless, 0, 0, 0, 0, 3, 3, 0, 0, 0);
        countIs(in.nobody, 5, 20, 1, 0, 2, 0, 1, 0, 0);
        countIs(in.some, 5, 30, 1, 5, 2, 3, 1, 1, 6);
        countIs(in.full, 12, 72, 2, 12, 8, 16, 1, 20, 15);
        countIs(in.another, 4, 8, 0, 2, 1, 0, 2, 0, 3);
        RowsIntoPlane x = new RowsIntoPlane();
        x.cabin(12, 1, 6);
        for (int row = 0; row < 12; row++) {
            Due.seat(x, row, 0, 0, 3);
        }
        said.is("all BAGS that there can be", x.count(8), 36);
        x.cabin(1, 1, 0);
        said.is("a refused CABIN was none", x.count(6), 1);
    }

    private void countIs(Twins twins, int... want) {
        for (int what = 0; what < want.length; what++) {
            said.is("count(" + what + ")", twins.made().count(what), want[what]);
        }
    }

    private void countRefused() {
        said.promise(28, "8 BAGS of all. OUTSIDE.");
        for (Twins twins : new Twins[] {in.fresh, in.cabinless, in.nobody, in.some, in.full}) {
            twins.bounds("what", 0, 8, (x, v) -> x.count(v), OUTSIDE);
        }
    }

    /** The numbers that go in with a CABIN, as the other calls tell them; letters are those of the page. */
    private static List<Long> numbersOf(RowsIntoPlane x, String page) {
        List<Long> numbers = new ArrayList<>();
        for (int person = 0; person < x.count(3); person++) {
            for (int what = 0; what <= 6; what++) {
                numbers.add((long) x.about(person, what));
            }
        }
        for (int call = 0; call < x.count(4); call++) {
            for (int i = 0; i < x.count(3); i++) {
                numbers.add((long) x.order(call, i));
            }
            for (int what = 0; what <= 2; what++) {
                numbers.add((long) x.board(call, what));
            }
            numbers.add((long) x.doors(call));
        }
        for (int manner = 0; manner <= 2; manner++) {
            numbers.add((long) x.out(manner));
        }
        numbers.add((long) x.least());
        for (int what = 0; what <= 2; what++) {
            numbers.add((long) x.mixed(2, 5, what));
        }
        addPageAndCounts(x, page, numbers);
        return numbers;
    }

    private static void addPageAndCounts(RowsIntoPlane x, String page, List<Long> numbers) {
        for (char letter : page.toCharArray()) {
            numbers.add((long) letter);
        }
        for (int what = 0; what <= 8; what++) {
            numbers.add((long) x.count(what));
        }
    }

    /** Without any bound on its size. */
    private static BigInteger digestOf(List<Long> numbers) {
        BigInteger h = BigInteger.valueOf(523);
        for (long number : numbers) {
            h = h.multiply(BigInteger.valueOf(31)).add(BigInteger.valueOf(number));
        }
        return h;
    }

    private void digestOfAll() {
        said.promise(29, "of each PERSON what about() tells for 0 to 6;");
        digestIs(in.callless, "b");
        said.promise(29, "with a CABIN of each CALL THE ORDER, what board() tells for 0 to 2, DOORS; out() for 0 to 2, "
            + "least(), what mixed() tells of 2 by SEED 5 for 0 to 2;");
        digestIs(in.nobody, "");
        digestIs(in.another, "");
        digestIs(in.ninth, "s,g");
        said.promise(29, "letters of THE PAGE; what count() tells for 0 to 8.");
        digestIs(in.some, "w,b");
        digestIs(in.full, "b1,f2,w,a,s,o,g,");
    }

    private void digestIs(Twins twins, String page) {
        long want = digestOf(numbersOf(twins.made(), page)).longValue();
        said.is("digest", twins.made().digest(), want);
        RowsIntoPlane x = twins.made();
        x.digest();
        said.is("digest again", x.digest(), want);
    }

    private void digestWraps() {
        said.promise(29, "h is 523, then for each of these numbers, in order, 31 times h, and it (as longs, wrapping)");
        RowsIntoPlane x = new RowsIntoPlane();
        boolean wasAbove = false;
        boolean wasBelow = false;
        List<Long> letters = new ArrayList<>();
        for (int many = 0; many <= 16; many++) {
            List<Long> numbers = new ArrayList<>(letters);
            addPageAndCounts(x, "", numbers);
            BigInteger h = digestOf(numbers);
            said.is(many + " letters", x.digest(), h.mod(LONGS).longValue());
            boolean isLong = h.bitLength() < 64;
            wasAbove |= !isLong && x.digest() > 0;
            wasBelow |= !isLong && x.digest() < 0;
            x.letters(126L);
            letters.add(126L);
        }
        said.isTrue("some were above all longs, and came round to one above 0", wasAbove);
        said.isTrue("some came round to one below 0", wasBelow);
    }

    private void digestWithoutCabin() {
        said.promise(29, "with a CABIN of each CALL THE ORDER");
        said.is("a new object", new RowsIntoPlane().digest(), 13827922390030933L);
        RowsIntoPlane x = in.cabinless.made();
        List<Long> numbers = new ArrayList<>();
        addPageAndCounts(x, "f2,", numbers);
        said.is("CALLS and letters", x.digest(), digestOf(numbers).longValue());
    }
}
