import java.math.BigInteger;
import java.util.ArrayList;
import java.util.Collections;
import java.util.List;

/** What the document says of LEAST to MIXED, and promises 15 to 21, at their edges. */
final class ChoiceSentences {
    private static final int NONE = RowsIntoPlane.NONE, UNKNOWN = RowsIntoPlane.UNKNOWN;
    private static final int OUTSIDE = RowsIntoPlane.OUTSIDE, STATE = RowsIntoPlane.STATE;
    private static final BigInteger FACTOR = BigInteger.valueOf(1103515245), SUMMAND = BigInteger.valueOf(12345);

    private final Said said;
    private final Histories in;

    ChoiceSentences(Said said, Histories histories) {
        this.said = said;
        in = histories;
    }

    void test() {
        least();
        bestOfLikeOnes();
        bestOfSix();
        bestOrder();
        bestOrderRefused();
        bestOrderTwentyTimes();
        swap();
        swapPlaces();
        swapRefused();
        later();
        bound();
        doorsByHalf();
        doorsTurnedRound();
        doors();
        seeds();
        mixedOrders();
        mixed();
    }

    private static RowsIntoPlane plane(int rows, int wide, int room, String... texts) {
        RowsIntoPlane x = new RowsIntoPlane();
        x.cabin(rows, wide, room);
        for (String text : texts) {
            Due.call(x, text);
        }
        return x;
    }

    private void least() {
        said.terms("LEAST: the CALL with least SECONDS, of like ones the least.");
        RowsIntoPlane x = plane(2, 2, 0, "a", "w", "w,a", "a");
        said.is("nobody, so all are like", x.least(), 0);
        Due.seat(x, 0, 0, 0, 0);
        said.is("one, so all are like", x.least(), 0);
        Due.seat(x, 0, 0, 1, 0);
        said.is("of 6, 3, 3, 6", x.least(), 1);
        RowsIntoPlane y = plane(2, 2, 0, "a", "a", "a", "a", "a", "a", "a", "w");
        Due.seat(y, 0, 0, 0, 0);
        Due.seat(y, 0, 0, 1, 0);
        said.is("the last of eight", y.least(), 7);
        said.promise(15, "LEAST; NONE: there are no CALLS.");
        said.is("no CALLS", in.callless.made().least(), NONE);
        said.is("no CALLS, nobody", plane(2, 1, 0).least(), NONE);
        said.is("one CALL", plane(2, 1, 0, "w").least(), 0);
        said.promise(15, "STATE.");
        in.fresh.refuse("no CABIN, no CALLS", RowsIntoPlane::least, STATE);
        in.cabinless.refuse("no CABIN, with CALLS", RowsIntoPlane::least, STATE);
    }

    private void bestIs(RowsIntoPlane x, int seconds, int... who) {
        said.is("SECONDS of the best", x.bestOrder(0), seconds);
        for (int i = 0; i < 6; i++) {
            said.is("the best at " + i, x.bestOrder(i + 1), i < who.length ? who[i] : NONE);
        }
    }

    private void bestOfLikeOnes() {
        said.terms("that with least SECONDS, of like ones the first by number (the first PERSON, then the second and so "
            + "on)");
        RowsIntoPlane x = plane(2, 2, 0);
        Due.seat(x, 0, 0, 0, 0);
        Due.seat(x, 0, 1, 0, 0);
        bestIs(x, 3, 0, 1);
        RowsIntoPlane y = plane(2, 2, 0);
        Due.seat(y, 0, 0, 0, 0);
        Due.seat(y, 0, 0, 1, 0);
        Due.seat(y, 0, 1, 0, 0);
        // 1 ahead of 0 takes 4, wherever 2 comes: 1, 0, 2 is the first of three.
        bestIs(y, 4, 1, 0, 2);
        RowsIntoPlane z = plane(2, 2, 0);
        Due.seat(z, 0, 1, 0, 0);
        Due.seat(z, 0, 0, 0, 0);
        Due.seat(z, 0, 0, 1, 0);
        // 2 ahead of 1: of 0, 2, 1 and 2, 0, 1 and 2, 1, 0 the first.
        bestIs(z, 4, 0, 2, 1);
    }

    private void bestOfSix() {
        said.terms("BEST ORDER of all orders of all PEOPLE (6 at most)");
        RowsIntoPlane x = plane(7, 1, 0);
        for (int row = 0; row < 6; row++) {
            Due.seat(x, row, 0, 0, 0);
        }
        // Only from the last row to the first all sit in 7: of 720 orders the last by number.
        bestIs(x, 7, 5, 4, 3, 2, 1, 0);
        Due.seat(x, 6, 0, 0, 0);
        said.is("seven", x.bestOrder(0), STATE);
        RowsIntoPlane y = plane(6, 1, 0);
        for (int row = 5; row >= 0; row--) {
            Due.seat(y, row, 0, 0, 0);
        }
        bestIs(y, 7, 0, 1, 2, 3, 4, 5);
        for (int number = 0; number < 120; number++) {
            List<Integer> order = orderOfFive(number);
            bestIs(fiveWhoComeBestBy(order), 6, order.stream().mapToInt(i -> i).toArray());
        }
        RowsIntoPlane z = plane(3, 2, 0);
        z.person(1, NONE, 2, 0, 0, 0, 0);
        z.person(2, NONE, 0, 0, 0, 0, 0);
        z.person(3, 1, 0, 0, 1, 0, 0);
        // All orders: neither a late one, nor a hasty one, nor one who is with another has its place.
        bestIs(z, 4, 0, 2, 1);
    }

    /** One of the 120 orders of five. */
    private static List<Integer> orderOfFive(int number) {
        List<Integer> left = new ArrayList<>(List.of(0, 1, 2, 3, 4));
        List<Integer> order = new ArrayList<>();
        int rest = number;
        for (int many = 5; many > 0; many--) {
            order.add(left.remove(rest % many));
            rest /= many;
        }
        return order;
    }

    /** The first of the order sits in the last row, and so on: no other order takes as little. */
    private static RowsIntoPlane fiveWhoComeBestBy(List<Integer> order) {
        RowsIntoPlane x = plane(5, 1, 0);
        for (int person = 0; person < 5; person++) {
            Due.seat(x, 4 - order.indexOf(person), 0, 0, 0);
        }
        return x;
    }

    private void bestOrder() {
        said.promise(16, "BEST ORDER: what = 0 its SECONDS, 1 to 6 who comes as the so-manieth (NONE: nobody).");
        bestIs(plane(2, 1, 0), 0);
        RowsIntoPlane x = plane(2, 1, 0);
        Due.seat(x, 1, 0, 0, 0);
        bestIs(x, 3, 0);
        RowsIntoPlane y = plane(5, 1, 0);
        for (int row = 0; row < 5; row++) {
            Due.seat(y, row, 0, 0, 0);
        }
        bestIs(y, 6, 4, 3, 2, 1, 0);
        y.cabin(5, 1, 0);
        bestIs(y, 0);
    }

    private void bestOrderRefused() {
        said.promise(16, "STATE; OUTSIDE; STATE: more than 6 PEOPLE,");
        in.fresh.refuse("no CABIN", x -> x.bestOrder(0), STATE);
        in.cabinless.refuse("no CABIN, with CALLS", x -> x.bestOrder(6), STATE);
        in.fresh.refuse("no CABIN ahead of OUTSIDE", x -> x.bestOrder(7), STATE);
        in.fresh.refuse("no CABIN ahead of OUTSIDE, too small", x -> x.bestOrder(-1), STATE);
        in.some.bounds("what", 0, 6, (x, v) -> x.bestOrder(v), OUTSIDE);
        in.nobody.bounds("what, of nobody", 0, 6, (x, v) -> x.bestOrder(v), OUTSIDE);
        Twins six = new Twins(said, "six", x -> seats(x, 6));
        six.bounds("what", 0, 6, (x, v) -> x.bestOrder(v), OUTSIDE);
        Twins seven = new Twins(said, "seven", x -> seats(x, 7));
        for (int what = 0; what <= 6; what++) {
            int asked = what;
            seven.refuse("seven PEOPLE, what " + what, x -> x.bestOrder(asked), STATE);
        }
        seven.refuse("OUTSIDE ahead of seven PEOPLE", x -> x.bestOrder(7), OUTSIDE);
        seven.refuse("OUTSIDE ahead of seven PEOPLE, too small", x -> x.bestOrder(-1), OUTSIDE);
        said.is("not done", seven.made().count(7), 0);
    }

    private static void seats(RowsIntoPlane x, int many) {
        x.cabin(12, 1, 1);
        for (int i = 0; i < many; i++) {
            Due.seat(x, i, 0, 0, 0);
        }
    }

    private void bestOrderTwentyTimes() {
        said.promise(16, "or bestOrder() was done 20 times.");
        RowsIntoPlane x = plane(3, 1, 0);
        Due.seat(x, 2, 0, 0, 0);
        for (int i = 0; i < 20; i++) {
            said.is("refused ones are not done", x.bestOrder(7), OUTSIDE);
            said.is("done " + i + " times", x.count(7), i);
            said.is("once more", x.bestOrder(i % 3), i % 3 == 0 ? 4 : i % 3 == 1 ? 0 : NONE);
        }
        said.is("done 20 times", x.count(7), 20);
        said.is("no more", x.bestOrder(0), STATE);
        said.is("still 20", x.count(7), 20);
        Twins twenty = new Twins(said, "done 20 times", y -> {
            seats(y, 2);
            for (int i = 0; i < 20; i++) {
                y.bestOrder(0);
            }
        });
        twenty.refuse("what 0", y -> y.bestOrder(0), STATE);
        twenty.refuse("what 6", y -> y.bestOrder(6), STATE);
        twenty.refuse("OUTSIDE ahead of it", y -> y.bestOrder(7), OUTSIDE);
        twenty.refuse("OUTSIDE ahead of it, too small", y -> y.bestOrder(-1), OUTSIDE);
        in.full.refuse("and twelve PEOPLE", y -> y.bestOrder(0), STATE);
        in.full.refuse("OUTSIDE ahead of both", y -> y.bestOrder(7), OUTSIDE);
        x.cabin(2, 1, 0);
        said.is("nor in another CABIN", x.bestOrder(0), STATE);
    }

    private void swap() {
        said.terms("SWAP: of all exchanges of two in THE ORDER by a CALL (the first place, then the second) that with "
            + "least SECONDS, of like ones the first;");
        RowsIntoPlane x = plane(2, 2, 0, "b9");
        Due.seat(x, 0, 0, 1, 0);
        Due.seat(x, 0, 1, 0, 0);
        Due.seat(x, 0, 1, 1, 0);
        // As it is 7; (0, 2): 2, 1, 0 and (1, 2): 0, 2, 1 take 4.
        said.is("of like ones the lesser first place", x.swap(0), 2);
        RowsIntoPlane y = plane(2, 2, 0, "b9");
        Due.seat(y, 0, 0, 0, 0);
        Due.seat(y, 0, 1, 0, 0);
        Due.seat(y, 0, 0, 1, 0);
        Due.seat(y, 1, 1, 1, 0);
        // As it is 0 sits in 2, 1 in 3, 2 gets 0 up and sits in 7, 3 comes in 7 and sits in 9, as by (0, 1) and (1, 2);
        // (0, 2): 2, 1, 0, 3 takes 6; (0, 3): 3, 1, 2, 0 has 3 and 1 in 3, 2 in 4, 0 in 5; (1, 3) and (2, 3) take 8.
        said.is("a later one that takes less", y.swap(0), 3);
        said.terms("none, if that is no less than as it is.");
        RowsIntoPlane z = plane(2, 1, 0, "b9", "f1");
        Due.seat(z, 0, 0, 0, 0);
        Due.seat(z, 0, 1, 0, 0);
        said.is("as many seconds", z.swap(0), NONE);
        Due.seat(z, 1, 0, 0, 0);
        // As it is 0 in 2, 1 in 3, 2 in 5; if 2 comes first, in 3, and the others in 3 and 4.
        said.is("one second less", z.swap(0), 2);
        RowsIntoPlane w = plane(2, 2, 0, "w");
        Due.seat(w, 0, 0, 0, 0);
        Due.seat(w, 0, 0, 1, 0);
        said.is("more seconds", w.swap(0), NONE);
    }

    private void swapPlaces() {
        said.promise(17, "SWAP: 16 times the first place and the second one; NONE.");
        RowsIntoPlane x = plane(12, 2, 0, "o");
        for (int row = 11; row >= 2; row--) {
            Due.seat(x, row, 0, 0, 0);
        }
        Due.seat(x, 0, 0, 0, 0);
        Due.seat(x, 0, 0, 1, 0);
        // All sit in 13 or sooner, but the last, for whom another gets up: 16. Exchanged, the last two sit in 12 and 13.
        said.is("as it is", x.board(0, 0), 16);
        said.is("the last two places", x.swap(0), 16 * 10 + 11);
        RowsIntoPlane y = plane(2, 2, 0, "b9");
        Due.seat(y, 0, 0, 0, 0);
        Due.seat(y, 0, 0, 1, 0);
        said.is("the first two places", y.swap(0), 1);
        said.is("THE ORDER is as it was", y.order(0, 0), 0);
        said.is("nobody", plane(2, 1, 0, "w").swap(0), NONE);
        RowsIntoPlane z = plane(2, 1, 0, "w");
        Due.seat(z, 1, 0, 0, 3);
        said.is("one", z.swap(0), NONE);
    }

    private void swapRefused() {
        said.promise(17, "UNKNOWN; STATE.");
        callRefused((x, v) -> x.swap(v));
    }

    /** UNKNOWN, then STATE. */
    private void callRefused(Twins.Ask ask) {
        in.some.bounds("call", 0, 1, ask, UNKNOWN);
        in.full.bounds("call", 0, 7, ask, UNKNOWN);
        in.callless.refuse("no CALLS", x -> ask.of(x, 0), UNKNOWN);
        in.fresh.refuse("UNKNOWN ahead of STATE", x -> ask.of(x, 0), UNKNOWN);
        in.cabinless.refuse("UNKNOWN ahead of STATE, with CALLS", x -> ask.of(x, 3), UNKNOWN);
        in.cabinless.refuse("STATE, by the first", x -> ask.of(x, 0), STATE);
        in.cabinless.refuse("STATE, by the last", x -> ask.of(x, 2), STATE);
    }

    private void later() {
        said.terms("LATER: SECONDS, if one comes behind all others.");
        RowsIntoPlane x = plane(2, 2, 0, "w");
        Due.seat(x, 0, 0, 1, 0);
        said.is("one alone", x.later(0, 0), 2);
        Due.seat(x, 0, 0, 0, 0);
        said.is("the last of two", x.later(0, 1), 3);
        said.is("the first of two", x.later(0, 0), 6);
        x.person(1, NONE, 1, 0, 0, 0, 0);
        // 1, 2, 0: 2 comes in 2 and goes on in 3, when 0 comes, who begins in 4.
        said.is("behind a LATE one, too", x.later(0, 0), 7);
        said.is("a LATE one who is the last", x.later(0, 2), 5);
        said.is("THE ORDER is as it was", x.board(0, 0), 5);
        RowsIntoPlane y = plane(2, 2, 0, "w");
        y.person(2, NONE, 0, 0, 1, 0, 0);
        Due.seat(y, 0, 0, 0, 0);
        y.person(3, 0, 1, 0, 0, 0, 0);
        // 0, 2, 1 as it is. 2, 1, 0: 2 in 3, 1 in 3, 0 (for whom 1 gets up) begins in 4.
        said.is("as it is", y.board(0, 0), 4);
        said.is("a HASTY one, and alone", y.later(0, 0), 7);
        said.promise(18, "LATER. UNKNOWN: call, person.");
        in.some.bounds("call", 0, 1, (z, v) -> z.later(v, 4), UNKNOWN);
        in.full.bounds("call", 0, 7, (z, v) -> z.later(v, 11), UNKNOWN);
        in.some.bounds("person", 0, 4, (z, v) -> z.later(1, v), UNKNOWN);
        in.full.bounds("person", 0, 11, (z, v) -> z.later(7, v), UNKNOWN);
        in.fresh.refuse("no CALLS, no PEOPLE", z -> z.later(0, 0), UNKNOWN);
        in.cabinless.refuse("no CABIN, so no PEOPLE", z -> z.later(0, 0), UNKNOWN);
        in.nobody.refuse("nobody", z -> z.later(0, 0), UNKNOWN);
        in.callless.refuse("no CALLS", z -> z.later(0, 0), UNKNOWN);
    }

    private void bound() {
        said.terms("BOUND: SECONDS, if each has so many BAGS at most (THE ORDER by these, too).");
        said.is("nobody", in.nobody.made().bound(0, 0), 0);
        RowsIntoPlane x = plane(2, 2, 6, "g");
        said.is("nobody, by what is less than all", x.bound(0, 2), 0);
        Due.seat(x, 0, 0, 0, 3);
        int[] alone = {2, 6, 10, 14};
        for (int bags = 0; bags <= 3; bags++) {
            said.is("one with three, by " + bags, x.bound(0, bags), alone[bags]);
        }
        Due.seat(x, 0, 0, 1, 2);
        // By 3: 1, of fewer bags, sits in 10, 0 in 23. By 2 both have as many: 0 sits in 10, 1 gets it up.
        int[] two = {6, 14, 22, 23};
        for (int bags = 0; bags <= 3; bags++) {
            said.is("two, by " + bags, x.bound(0, bags), two[bags]);
        }
        said.is("as many as they have", x.bound(0, 3), x.board(0, 0));
        said.is("BAGS are as they were", x.count(8), 5);
        x.change(0, 5, 0);
        x.change(1, 5, 1);
        said.is("fewer than the bound", x.bound(0, 3), x.board(0, 0));
    }

    private void doorsByHalf() {
        said.terms("DOORS: with a door behind, too: those of ROWS from half of ROWS (rounded up) on come through that one");
        for (int rows = 2; rows <= 12; rows++) {
            int half = (rows + 1) / 2;
            for (int row = 0; row < rows; row++) {
                RowsIntoPlane x = plane(rows, 1, 0, "f1");
                Due.seat(x, row, 0, 0, 0);
                int far = row < half ? row : rows - 1 - row;
                said.is("ROW " + row + " of " + rows, x.doors(0), far + 2);
            }
            RowsIntoPlane y = plane(rows, 1, 0, "f1");
            Due.seat(y, half - 1, 0, 0, 0);
            Due.seat(y, half - 1, 1, 0, 0);
            Due.seat(y, half, 0, 0, 0);
            Due.seat(y, half, 1, 0, 0);
            // Two by each door, the second a second later.
            int far = Math.max(half - 1, rows - 1 - half);
            said.is("the middle of " + rows, y.doors(0), far + 3);
            RowsIntoPlane z = plane(rows, 1, 0, "f1");
            Due.seat(z, 0, 0, 0, 0);
            Due.seat(z, half - 1, 1, 0, 0);
            // The last ROW ahead is not of the other door: its one comes second, also in the middle of an odd number.
            said.is("two ahead of " + rows, z.doors(0), half - 1 + 3);
        }
    }

    private void doorsTurnedRound() {
        said.terms("as into a CABIN of their ROWS alone, turned round (numbered from that door), the others as into one "
            + "of theirs; each in THE ORDER as by one door; the later of both.");
        RowsIntoPlane x = plane(6, 2, 1, "a");
        Due.seat(x, 4, 0, 0, 2);
        Due.seat(x, 5, 0, 0, 1);
        // From behind 0 is in row 1, 1 in row 0. 0 begins in 3: row 1 (4), of rows 0 and 2 the lesser (6): sits in 13.
        // 1 begins in 3 as well: row 2 alone is left (8): sits in 11.
        said.is("of like BINS the lesser from that door", x.doors(0), 13);
        x.change(0, 5, 3);
        // Now 0 has rows 1, 0 and 2 (16): sits in 19; for 1 nothing is left: 8.
        said.is("three BINS, and no more", x.doors(0), 19);
        x.change(0, 5, 2);
        x.change(1, 5, 3);
        // 1 begins in 3: row 2 (8), below, below: sits in 21. By rows as numbered from ahead 0 would leave row 0 to it (4).
        said.is("what is left to the second", x.doors(0), 21);
        RowsIntoPlane y = plane(4, 1, 1, "f1");
        Due.seat(y, 1, 0, 0, 3);
        said.is("BINS behind are no use ahead", y.doors(0), 3 + 4 + 6 + 5);
        y.cabin(4, 1, 1);
        Due.seat(y, 2, 0, 0, 3);
        said.is("BINS ahead are no use behind", y.doors(0), 3 + 4 + 6 + 5);
        RowsIntoPlane z = plane(2, 1, 0, "f1");
        Due.seat(z, 0, 0, 0, 1);
        Due.seat(z, 1, 0, 0, 2);
        said.is("behind is later", z.doors(0), 12);
        z.change(0, 5, 3);
        said.is("ahead is later", z.doors(0), 17);
        z.change(1, 5, 3);
        said.is("both as late", z.doors(0), 17);
        RowsIntoPlane w = plane(4, 2, 0, "a", "w");
        w.person(2, NONE, 3, 0, 0, 0, 0);
        Due.seat(w, 3, 0, 1, 0);
        // A hasty one is ahead by each door, whatever the KEY.
        said.is("THE ORDER as by one door", w.doors(1), 6);
    }

    private void doors() {
        said.promise(20, "DOORS. UNKNOWN; STATE.");
        said.is("nobody", in.nobody.made().doors(1), 0);
        RowsIntoPlane y = in.full.made();
        said.isTrue("twelve", y.doors(7) > 0);
        y.cabin(2, 1, 0);
        said.is("nobody any more", y.doors(7), 0);
        callRefused((x, v) -> x.doors(v));
    }

    private static int next(int seed) {
        return FACTOR.multiply(BigInteger.valueOf(seed)).add(SUMMAND).mod(BigInteger.TWO.pow(31)).intValueExact();
    }

    private void seeds() {
        said.terms("By a SEED: again and again the next one: 1103515245 times it and 12345, its rest by 2 to the 31.");
        RowsIntoPlane x = plane(12, 1, 0);
        Due.seat(x, 0, 0, 0, 0);
        Due.seat(x, 1, 0, 0, 0);
        said.is("the least SEED", x.mixed(1, 0, 2), 12345);
        said.is("no rest yet", x.mixed(1, 1, 2), 1103527590);
        said.is("2 to the 31 once", x.mixed(1, 2, 2), 59559187);
        said.is("the greatest SEED", x.mixed(1, Integer.MAX_VALUE, 2), 1043980748);
        said.is("the greatest SEED but one", x.mixed(1, Integer.MAX_VALUE - 1, 2), next(Integer.MAX_VALUE - 1));
        int seed = 12345;
        for (int i = 0; i < 100; i++) {
            int then = x.mixed(1, seed, 2);
            said.is("behind " + seed, then, next(seed));
            seed = then;
        }
        said.is("nine", x.mixed(9, 7, 2), next(next(next(next(next(next(next(next(next(7))))))))));
    }

    private static List<Integer> orderBy(int many, int seed) {
        List<Integer> order = new ArrayList<>();
        for (int i = 0; i < many; i++) {
            order.add(i);
        }
        int now = seed;
        for (int k = many; k >= 2; k--) {
            now = next(now);
            Collections.swap(order, k - 1, now / 65536 % k);
        }
        return order;
    }

    /** Seats that differ in all, for SECONDS that tell orders from one another. */
    private static void seat(RowsIntoPlane x, int i) {
        Due.seat(x, i * 4 % 9, i % 2, i % 3, (i + 1) % 4);
    }

    private void mixedOrders() {
        said.terms("A DRAW of d: the next SEED, by 65536 (rounded down), its rest by d. MIXED: THE ORDER is by number; for "
            + "k from how many there are down to 2 the one at place k less 1 changes with that at place DRAW of k.");
        for (int many = 0; many <= 12; many++) {
            RowsIntoPlane x = plane(9, 3, 1);
            for (int i = 0; i < many; i++) {
                seat(x, i);
            }
            for (int seed : new int[] {0, 1, 2, 65535, 65536, 1000000007, Integer.MAX_VALUE}) {
                // The same people, told in that order, come by it.
                RowsIntoPlane y = plane(9, 3, 1, "b9");
                for (int i : orderBy(many, seed)) {
                    seat(y, i);
                }
                said.is(many + " by SEED " + seed, x.mixed(1, seed, 0), y.board(0, 0));
            }
        }
    }

    private void mixed() {
        said.promise(21, "n (1 to 9) orders, MIXED one behind the other by a SEED: what = 0 the least, 1 the greatest "
            + "SECONDS, 2 the SEED then.");
        RowsIntoPlane x = plane(9, 3, 1);
        said.is("nobody: the least", x.mixed(9, 5, 0), 0);
        said.is("nobody: the greatest", x.mixed(9, 5, 1), 0);
        said.is("nobody: nothing is drawn", x.mixed(9, 5, 2), 5);
        seat(x, 0);
        said.is("one: nothing is drawn", x.mixed(9, Integer.MAX_VALUE, 2), Integer.MAX_VALUE);
        for (int i = 1; i < 12; i++) {
            seat(x, i);
        }
        for (int n = 1; n <= 9; n++) {
            int least = Integer.MAX_VALUE;
            int greatest = 0;
            int seed = 99;
            for (int i = 0; i < n; i++) {
                int took = x.mixed(1, seed, 0);
                least = Math.min(least, took);
                greatest = Math.max(greatest, took);
                seed = x.mixed(1, seed, 2);
            }
            said.is("the least of " + n, x.mixed(n, 99, 0), least);
            said.is("the greatest of " + n, x.mixed(n, 99, 1), greatest);
            said.is("the SEED behind " + n, x.mixed(n, 99, 2), seed);
        }
        said.promise(21, "STATE: no CABIN; OUTSIDE: n, seed (0 at least), what.");
        in.some.bounds("n", 1, 9, (y, v) -> y.mixed(v, 0, 0), OUTSIDE);
        in.some.bounds("seed", 0, Integer.MAX_VALUE, (y, v) -> y.mixed(1, v, 0), OUTSIDE);
        in.some.bounds("what", 0, 2, (y, v) -> y.mixed(1, 0, v), OUTSIDE);
        in.nobody.bounds("n, of nobody", 1, 9, (y, v) -> y.mixed(v, 0, 0), OUTSIDE);
        in.fresh.refuse("no CABIN", y -> y.mixed(1, 0, 0), STATE);
        in.fresh.refuse("no CABIN ahead of n", y -> y.mixed(0, 0, 0), STATE);
        in.cabinless.refuse("no CABIN ahead of seed", y -> y.mixed(1, -1, 0), STATE);
        in.cabinless.refuse("no CABIN ahead of what", y -> y.mixed(1, 0, 3), STATE);
    }
}
