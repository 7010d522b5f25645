/** Promises 16, 17 and 21: bestOrder, swap, mixed. */
public final class OrdersTest {
    private static final int NONE = RowsIntoPlane.NONE, UNKNOWN = RowsIntoPlane.UNKNOWN;
    private static final int OUTSIDE = RowsIntoPlane.OUTSIDE, STATE = RowsIntoPlane.STATE;
    private static final int LEAST = Integer.MIN_VALUE, MOST = Integer.MAX_VALUE;
    private static final Due due = new Due();

    public static void main(String[] args) {
        bestOrder();
        bestOrderOfLikeOnes();
        bestOrderIsTheLastOne();
        bestOrderRefused();
        bestOrderTwentyTimes();
        swap();
        swapOfSeveral();
        swapOfOneSecondLess();
        mixedSeeds();
        mixedOrders();
        mixedRefused();
        due.end("OrdersTest");
    }

    private static void bestIs(RowsIntoPlane x, int seconds, int... who) {
        due.is("bestOrder(0)", x.bestOrder(0), seconds);
        for (int i = 0; i < 6; i++) {
            due.is("bestOrder(" + (i + 1) + ")", x.bestOrder(i + 1), i < who.length ? who[i] : NONE);
        }
    }

    private static void bestOrder() {
        RowsIntoPlane x = new RowsIntoPlane();
        x.cabin(3, 2, 0);
        Due.seat(x, 0, 0, 0, 0);
        x.person(3, 0, 0, 0, 1, 0, 0);
        x.person(1, NONE, 2, 0, 0, 0, 0);
        // Neither group nor late ones bind it: 1, 2, 0 has 1 in 2, 2 in 5, 0 in 4;
        // 2, 1, 0 has 2 in 4, 1 in 3, 0 in 4.
        bestIs(x, 4, 2, 1, 0);
        due.is("seven times", x.count(7), 7);
    }

    private static void bestOrderOfLikeOnes() {
        RowsIntoPlane x = new RowsIntoPlane();
        x.cabin(2, 1, 0);
        bestIs(x, 0);
        Due.seat(x, 1, 0, 0, 0);
        bestIs(x, 3, 0);
        x.cabin(2, 3, 0);
        for (int i = 0; i < 6; i++) {
            Due.seat(x, 0, i % 2, i / 2, 0);
        }
        // One a second, if those of more depth are ahead: 4 or 5, then 2 or 3, but on each side alone.
        due.is("six", x.bestOrder(0), 7);
        due.is("first", x.bestOrder(1), 4);
        due.is("second", x.bestOrder(2), 2);
        due.is("third", x.bestOrder(3), 0);
        due.is("fourth", x.bestOrder(4), 5);
    }

    private static void bestOrderRefused() {
        RowsIntoPlane x = new RowsIntoPlane();
        due.is("no cabin", x.bestOrder(0), STATE);
        due.is("no cabin ahead of what", x.bestOrder(-1), STATE);
        x.cabin(7, 1, 0);
        for (int v : new int[] {-1, 7, LEAST, MOST}) {
            due.is("bestOrder(" + v + ")", x.bestOrder(v), OUTSIDE);
        }
        for (int i = 0; i < 6; i++) {
            Due.seat(x, i, 0, 0, 0);
        }
        // From the last row to the first, for one in row r who comes as the k-th sits in k + r + 1.
        due.is("six may", x.bestOrder(6), 0);
        Due.seat(x, 6, 0, 0, 0);
        long before = x.digest();
        due.is("seven may not", x.bestOrder(0), STATE);
        due.is("what ahead of seven", x.bestOrder(7), OUTSIDE);
        due.is("refusals are not counted", x.count(7), 1);
        due.is("refusals change nothing", x.digest(), before);
    }

    private static void bestOrderTwentyTimes() {
        RowsIntoPlane x = new RowsIntoPlane();
        x.cabin(2, 1, 0);
        Due.seat(x, 0, 0, 0, 0);
        for (int i = 0; i < 20; i++) {
            due.is("time " + i, x.bestOrder(i % 2), i % 2 == 0 ? 2 : 0);
        }
        due.is("no more", x.bestOrder(0), STATE);
        due.is("what ahead of that", x.bestOrder(9), OUTSIDE);
        due.is("twenty", x.count(7), 20);
        x.cabin(2, 1, 0);
        due.is("nor in another cabin", x.bestOrder(0), STATE);
    }

    private static void swap() {
        RowsIntoPlane x = new RowsIntoPlane();
        Due.call(x, "a");
        Due.call(x, "w");
        due.is("no cabin", x.swap(0), STATE);
        due.is("call ahead of no cabin", x.swap(2), UNKNOWN);
        x.cabin(2, 2, 0);
        due.is("nobody", x.swap(0), NONE);
        Due.seat(x, 0, 0, 0, 0);
        due.is("one", x.swap(0), NONE);
        Due.seat(x, 0, 0, 1, 0);
        due.is("two", x.swap(0), 1);
        due.is("no less", x.swap(1), NONE);
        due.is("the order is as it was", x.order(0, 0), 0);
        for (int v : new int[] {-1, 2, LEAST, MOST}) {
            due.is("swap(" + v + ")", x.swap(v), UNKNOWN);
        }
    }

    private static void swapOfSeveral() {
        RowsIntoPlane x = new RowsIntoPlane();
        x.cabin(2, 2, 0);
        Due.call(x, "o");
        Due.seat(x, 0, 0, 1, 0);
        Due.seat(x, 0, 1, 0, 0);
        Due.seat(x, 0, 1, 1, 0);
        // 0 in 2, 1 in 3, 2 in 7. Exchanged: (0, 1) no less, (0, 2): 2, 1, 0 in 4; (1, 2): 0, 2, 1 in 4.
        due.is("as it is", x.board(0, 0), 7);
        due.is("of like ones the first", x.swap(0), 2);
        Due.seat(x, 0, 0, 0, 0);
        // 0, 3, 1, 2 then: 8. Exchanged by (1, 3): 0, 2, 1, 3 in 5, as by (2, 3): 0, 3, 2, 1.
        due.is("places 1 and 3", x.swap(0), 16 * 1 + 3);
        Due.seat(x, 1, 0, 0, 3);
        // 0, 3, 4, 1, 2 then: 4 sits in 20; if it comes first, in 18, and all others by 12.
        due.is("with one more", x.board(0, 0), 20);
        due.is("places 0 and 2", x.swap(0), 2);
    }

    private static void swapOfOneSecondLess() {
        RowsIntoPlane x = new RowsIntoPlane();
        x.cabin(2, 1, 0);
        Due.call(x, "f1");
        Due.seat(x, 0, 0, 0, 0);
        Due.seat(x, 1, 0, 0, 0);
        // 0 in 2, 1 in 4; exchanged, 1 in 3 and 0 in 3.
        due.is("one second less", x.swap(0), 1);
    }

    private static void bestOrderIsTheLastOne() {
        RowsIntoPlane x = new RowsIntoPlane();
        x.cabin(4, 1, 0);
        for (int i = 0; i < 4; i++) {
            Due.seat(x, i, 0, 0, 0);
        }
        bestIs(x, 5, 3, 2, 1, 0);
        RowsIntoPlane y = new RowsIntoPlane();
        y.cabin(4, 1, 0);
        int[] rows = {1, 3, 0, 2};
        for (int row : rows) {
            Due.seat(y, row, 0, 0, 0);
        }
        bestIs(y, 5, 1, 3, 0, 2);
    }

    /** The next seed, as the document tells it. */
    private static int next(int seed) {
        return new java.math.BigInteger("1103515245").multiply(java.math.BigInteger.valueOf(seed))
            .add(java.math.BigInteger.valueOf(12345)).mod(java.math.BigInteger.TWO.pow(31)).intValueExact();
    }

    private static void mixedSeeds() {
        RowsIntoPlane x = new RowsIntoPlane();
        x.cabin(12, 1, 0);
        due.is("nobody: no draw", x.mixed(9, 77, 2), 77);
        due.is("nobody: least", x.mixed(9, 77, 0), 0);
        due.is("nobody: greatest", x.mixed(9, 77, 1), 0);
        Due.seat(x, 0, 0, 0, 0);
        due.is("one: no draw", x.mixed(9, 77, 2), 77);
        due.is("one: least", x.mixed(9, 77, 0), 2);
        for (int many = 2; many <= 12; many++) {
            Due.seat(x, many - 1, 0, 0, 0);
            for (int n : new int[] {1, 5, 9}) {
                for (int seed : new int[] {0, 1, 65535, MOST}) {
                    int then = seed;
                    for (int draw = 0; draw < n * (many - 1); draw++) {
                        then = next(then);
                    }
                    due.is("mixed(" + n + ", " + seed + ", 2) of " + many, x.mixed(n, seed, 2), then);
                }
            }
        }
    }

    private static void mixedOrders() {
        RowsIntoPlane x = new RowsIntoPlane();
        x.cabin(2, 2, 0);
        Due.seat(x, 0, 0, 0, 0);
        x.person(3, 0, 0, 0, 1, 0, 0);
        // 0 ahead of 1 takes 6, 1 ahead of 0 takes 3: they change, if the draw of 2 is 0.
        for (int seed = 0; seed < 2000000; seed += 99991) {
            int first = next(seed);
            int second = next(first);
            int took = first / 65536 % 2 == 0 ? 3 : 6;
            int tookThen = second / 65536 % 2 == 0 ? 3 : 6;
            due.is("least of 1, seed " + seed, x.mixed(1, seed, 0), took);
            due.is("greatest of 1, seed " + seed, x.mixed(1, seed, 1), took);
            due.is("least of 2, seed " + seed, x.mixed(2, seed, 0), Math.min(took, tookThen));
            due.is("greatest of 2, seed " + seed, x.mixed(2, seed, 1), Math.max(took, tookThen));
        }
    }

    private static void mixedRefused() {
        RowsIntoPlane x = new RowsIntoPlane();
        due.is("no cabin", x.mixed(1, 1, 0), STATE);
        due.is("no cabin ahead of n", x.mixed(0, 1, 0), STATE);
        x.cabin(2, 1, 0);
        for (int v : new int[] {-1, 0, 10, LEAST, MOST}) {
            due.is("n " + v, x.mixed(v, 1, 0), OUTSIDE);
        }
        for (int v : new int[] {-1, LEAST}) {
            due.is("seed " + v, x.mixed(1, v, 0), OUTSIDE);
        }
        for (int v : new int[] {-1, 3, LEAST, MOST}) {
            due.is("what " + v, x.mixed(1, 1, v), OUTSIDE);
        }
    }
}
