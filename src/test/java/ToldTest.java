/** Promises 26 to 29: image, restore, count, digest. */
public final class ToldTest {
    private static final int NONE = RowsIntoPlane.NONE, OUTSIDE = RowsIntoPlane.OUTSIDE;
    private static final int STATE = RowsIntoPlane.STATE, UNKNOWN = RowsIntoPlane.UNKNOWN;
    private static final Due due = new Due();

    public static void main(String[] args) {
        imageAndRestore();
        theLatestImage();
        imageOfNobody();
        imageOfAnotherCabin();
        count();
        digest();
        digestWithoutCabin();
        due.end("ToldTest");
    }

    private static void imageAndRestore() {
        RowsIntoPlane x = new RowsIntoPlane();
        due.is("image without a cabin", x.image(), STATE);
        due.is("restore without a cabin", x.restore(), STATE);
        x.cabin(4, 2, 1);
        due.is("restore without an image", x.restore(), STATE);
        x.person(0, NONE, 0, 0, 0, 2, 30);
        x.person(2, NONE, 1, 0, 0, 3, 40);
        Due.call(x, "w");
        long before = x.digest();
        due.is("image", x.image(), 2);
        due.is("image changes nothing that is told", x.digest(), before);
        x.change(0, 5, 0);
        x.change(0, 6, 1);
        x.change(1, 5, 1);
        x.change(1, 6, 2);
        x.person(3, 1, 2, 0, 0, 1, 1);
        due.is("restore", x.restore(), 2);
        due.is("all is as it was", x.digest(), before);
        due.is("who came since is gone", x.about(2, 0), UNKNOWN);
        due.is("its seat is free", x.person(0, NONE, 2, 0, 0, 0, 7), 2);
        due.is("with what is told now", x.about(2, 6), 7);
        due.is("restore again", x.restore(), 2);
        due.is("all is as it was again", x.digest(), before);
    }

    private static void theLatestImage() {
        RowsIntoPlane x = new RowsIntoPlane();
        x.cabin(4, 2, 1);
        x.person(0, NONE, 0, 0, 0, 2, 30);
        x.image();
        x.person(0, NONE, 1, 0, 0, 1, 31);
        x.change(0, 5, 1);
        due.is("the second image", x.image(), 2);
        x.change(0, 5, 3);
        Due.call(x, "w");
        Due.write(x, "b");
        x.bestOrder(0);
        due.is("restore", x.restore(), 2);
        due.is("bags", x.about(0, 5), 1);
        due.is("calls since stay", x.count(4), 1);
        due.is("letters since stay", x.count(5), 1);
        due.is("bestOrder stays counted", x.count(7), 1);
    }

    private static void imageOfNobody() {
        RowsIntoPlane x = new RowsIntoPlane();
        x.cabin(2, 1, 0);
        due.is("image of nobody", x.image(), 0);
        Due.seat(x, 0, 0, 0, 0);
        due.is("restore of nobody", x.restore(), 0);
        due.is("nobody is there", x.count(3), 0);
    }

    private static void imageOfAnotherCabin() {
        RowsIntoPlane x = new RowsIntoPlane();
        x.cabin(2, 1, 0);
        Due.seat(x, 0, 0, 0, 0);
        x.image();
        x.cabin(2, 1, 0);
        due.is("another cabin since", x.restore(), STATE);
        Due.seat(x, 1, 0, 0, 2);
        due.is("still", x.restore(), STATE);
        due.is("refused, it changes nothing", x.count(8), 2);
        due.is("image", x.image(), 1);
        due.is("restore", x.restore(), 1);
    }

    private static void count() {
        RowsIntoPlane x = new RowsIntoPlane();
        x.cabin(7, 3, 4);
        x.cabin(5, 2, 6);
        Due.seat(x, 0, 0, 0, 3);
        Due.seat(x, 1, 0, 0, 2);
        Due.seat(x, 2, 0, 0, 2);
        Due.call(x, "w");
        Due.call(x, "b1");
        Due.write(x, "abcde");
        x.bestOrder(0);
        int[] want = {5, 20, 6, 3, 2, 5, 2, 1, 7};
        for (int what = 0; what < want.length; what++) {
            due.is("count(" + what + ")", x.count(what), want[what]);
        }
        for (int v : new int[] {-1, 9, Integer.MIN_VALUE, Integer.MAX_VALUE}) {
            due.is("count(" + v + ")", x.count(v), OUTSIDE);
        }
    }

    private static long digestOf(long... numbers) {
        long h = 523;
        for (long number : numbers) {
            h = 31 * h + number;
        }
        return h;
    }

    private static void digest() {
        RowsIntoPlane x = new RowsIntoPlane();
        x.cabin(2, 2, 0);
        due.is("of an empty cabin", x.digest(),
            digestOf(0, 0, 0, NONE, 0, 0, 5, 2, 8, 0, 0, 0, 0, 1, 0, 0));
        x.person(1, NONE, 0, 0, 0, 0, 9);
        x.person(3, 0, 1, 1, 1, 1, 8);
        Due.call(x, "w");
        Due.write(x, "b~");
        // By the call: 0, then 1. 0 sits in 2; 1 comes in 2, begins in 4, its bag goes below, it sits in 9.
        // By two doors: 0 in 2, 1 in 7. Out: 0 in 2, 1 (busy in 2 and 3) in cell 0 in 4, out in 5;
        // by manner 1 and 2 it gets up in 2, so it is out in 6.
        // Mixed by seed 5: draws of 2; if they change, 1 comes ahead: begins in 3 and sits in 8, 0 in 3.
        int first = (int) ((1103515245L * 5 + 12345) % (1L << 31));
        int second = (int) ((1103515245L * first + 12345) % (1L << 31));
        int took = first / 65536 % 2 == 0 ? 8 : 9;
        int tookThen = second / 65536 % 2 == 0 ? 8 : 9;
        due.is("of two people and a call", x.digest(), digestOf(
            1, NONE, 0, 0, 0, 0, 9, 3, 0, 1, 1, 1, 1, 8,
            0, 1, 9, 1, 0, 7,
            5, 6, 6, 0, Math.min(took, tookThen), Math.max(took, tookThen), second,
            'b', '~',
            2, 8, 0, 2, 1, 2, 1, 0, 1));
        due.is("digest changes nothing", x.digest(), x.digest());
    }

    /** What needs a cabin is left out as a whole, refusals too: letters of the page and counts alone go in. */
    private static void digestWithoutCabin() {
        RowsIntoPlane x = new RowsIntoPlane();
        due.is("of a new object, as told", x.digest(), 13827922390030933L);
        due.is("of a new object", x.digest(), digestOf(0, 0, 0, 0, 0, 0, 0, 0, 0));
        Due.write(x, "g,~");
        due.is("with letters", x.digest(), digestOf('g', ',', '~', 0, 0, 0, 0, 0, 3, 0, 0, 0));
        x.blank();
        Due.call(x, "w");
        due.is("with a call", x.digest(), digestOf(0, 0, 0, 0, 1, 0, 0, 0, 0));
        Due.call(x, "b2,a");
        Due.write(x, "s");
        due.is("with calls and a letter", x.digest(), digestOf('s', 0, 0, 0, 0, 2, 1, 0, 0, 0));
        x.cabin(1, 1, 0);
        x.bestOrder(0);
        due.is("a refused cabin is none", x.digest(), digestOf('s', 0, 0, 0, 0, 2, 1, 0, 0, 0));
        x.cabin(2, 2, 0);
        // By each call nobody boards: an empty order, 0 seconds, nothing below, no waiting, 0 by two doors.
        due.is("with a cabin all goes in", x.digest(), digestOf(0, 0, 0, 0, 0, 0, 0, 0,
            0, 0, 0, 0, 0, 0, 5, 's', 2, 8, 0, 0, 2, 1, 1, 0, 0));
    }
}
