/** Promises 7 to 11: letters, blank, fault, call, order. */
public final class CallsTest {
    private static final int NONE = RowsIntoPlane.NONE, UNKNOWN = RowsIntoPlane.UNKNOWN;
    private static final int OUTSIDE = RowsIntoPlane.OUTSIDE, STATE = RowsIntoPlane.STATE;
    private static final int FULL = RowsIntoPlane.FULL;
    private static final int LEAST = Integer.MIN_VALUE, MOST = Integer.MAX_VALUE;
    private static final Due due = new Due();

    public static void main(String[] args) {
        letters();
        lettersRefused();
        blank();
        fault();
        call();
        eightCalls();
        orderByOneKey();
        orderByKeys();
        orderOfKinds();
        orderOfGroups();
        orderRefused();
        due.end("CallsTest");
    }

    private static void letters() {
        RowsIntoPlane x = new RowsIntoPlane();
        due.is("no letter", x.letters(0L), 0);
        due.is("one letter", x.letters(1L), 1);
        due.is("code 126", x.letters(126L), 2);
        due.is("six letters", x.letters(Due.bytes("b9,f1,")), 8);
        due.is("eight letters", x.letters(Due.bytes("abcdefgh")), 16);
        due.is("none behind sixteen", x.letters(0L), 16);
        due.is("one behind sixteen", x.letters(97L), FULL);
        due.is("FULL changes nothing", x.count(5), 16);
    }

    private static void lettersRefused() {
        RowsIntoPlane x = new RowsIntoPlane();
        x.letters(Due.bytes("b1"));
        long before = x.digest();
        long[] wrong = {127L, 128L, 255L, -1L, Long.MIN_VALUE, Long.MAX_VALUE, 0x6100L, 0x610061L,
            0x0100000000000000L, 0x7f61L, 0x8061L, 0x7f61616161616161L, 0xff00000000000000L};
        for (long w : wrong) {
            due.is("letters(" + w + ")", x.letters(w), OUTSIDE);
        }
        due.is("refusals change nothing", x.digest(), before);
        x.letters(Due.bytes("12345678"));
        due.is("seventeen", x.letters(Due.bytes("1234567")), FULL);
        due.is("OUTSIDE ahead of FULL", x.letters(0x7f31313131313131L), OUTSIDE);
        due.is("as it was", x.count(5), 10);
        due.is("sixteen", x.letters(Due.bytes("123456")), 16);
    }

    private static void blank() {
        RowsIntoPlane x = new RowsIntoPlane();
        due.is("blank", x.blank(), 0);
        Due.write(x, "w,a");
        due.is("blank of three", x.blank(), 3);
        due.is("it is empty then", x.count(5), 0);
        due.is("blank again", x.blank(), 0);
    }

    private static void faultOf(String text, int want) {
        RowsIntoPlane x = new RowsIntoPlane();
        Due.write(x, text);
        long before = x.digest();
        due.is("fault of '" + text + "'", x.fault(), want);
        due.is("fault changes nothing", x.digest(), before);
    }

    private static void fault() {
        String[] none = {"", "b", "f", "b1", "b9", "f5", "w", "a", "s", "o", "g", "w,", "b3,", "b3,f", "w,w,w,w",
            "b1,b2,b3,b4", "b1,b2,b3,f", "g,o,s,a"};
        for (String text : none) {
            faultOf(text, text.length());
        }
        faultOf(",", 0);
        faultOf("1", 0);
        faultOf("x", 0);
        faultOf("B1", 0);
        faultOf(" w", 0);
        faultOf("b0", 1);
        faultOf("b,", 1);
        faultOf("f:", 1);
        faultOf("b/", 1);
        faultOf("bb", 1);
        faultOf("w1", 1);
        faultOf("ww", 1);
        faultOf("g2", 1);
        faultOf("b11", 2);
        faultOf("b1w", 2);
        faultOf("w,,", 2);
        faultOf("w,1", 2);
        faultOf("w,b0,w", 3);
        faultOf("w,w,w,w,", 7);
        faultOf("b1,b2,b3,b4,", 11);
        faultOf("b1,b2,b3,b45", 11);
        faultOf("b1,b2,b3,b4,w,a,", 11);
    }

    private static void call() {
        RowsIntoPlane x = new RowsIntoPlane();
        due.is("of no letters", x.call(), STATE);
        for (String text : new String[] {"b", "w,", "b1,", "b1,f", "w,w,w,w,", "w,w,w,w,w", "x", "b0", "ww", "b12"}) {
            x.blank();
            Due.write(x, text);
            due.is("call of '" + text + "'", x.call(), STATE);
            due.is("the page stays", x.count(5), text.length());
        }
        due.is("no call", x.count(4), 0);
        x.blank();
        Due.write(x, "b1,b2,b3,b4");
        due.is("of four keys", x.call(), 0);
        due.is("the page is empty then", x.count(5), 0);
        due.is("there is one", x.count(4), 1);
    }

    private static void eightCalls() {
        RowsIntoPlane x = new RowsIntoPlane();
        for (int i = 0; i < 8; i++) {
            due.is("call " + i, Due.call(x, "f" + (i + 1)), i);
        }
        Due.write(x, "w,");
        due.is("STATE ahead of FULL", x.call(), STATE);
        Due.write(x, "a");
        long before = x.digest();
        due.is("a ninth", x.call(), FULL);
        due.is("FULL changes nothing", x.digest(), before);
        due.is("the page stays", x.count(5), 3);
    }

    private static void orderIs(RowsIntoPlane x, String text, int... want) {
        int call = Due.call(x, text);
        for (int i = 0; i < 12; i++) {
            due.is("order by '" + text + "' at " + i, x.order(call, i), i < want.length ? want[i] : NONE);
        }
    }

    private static void orderByOneKey() {
        RowsIntoPlane x = new RowsIntoPlane();
        x.cabin(5, 3, 0);
        Due.seat(x, 0, 1, 0, 2);
        Due.seat(x, 1, 0, 2, 0);
        Due.seat(x, 2, 1, 1, 3);
        Due.seat(x, 3, 0, 1, 1);
        Due.seat(x, 4, 1, 2, 0);
        orderIs(x, "b1", 4, 3, 2, 1, 0);
        orderIs(x, "b2", 3, 4, 1, 2, 0);
        orderIs(x, "b3", 2, 3, 4, 0, 1);
        orderIs(x, "f1", 0, 1, 2, 3, 4);
        orderIs(x, "w", 1, 4, 2, 3, 0);
        orderIs(x, "a", 0, 2, 3, 1, 4);
        orderIs(x, "s", 0, 2, 4, 1, 3);
        orderIs(x, "o", 1, 3, 0, 2, 4);
        RowsIntoPlane y = new RowsIntoPlane();
        y.cabin(5, 1, 0);
        Due.seat(y, 4, 0, 0, 3);
        Due.seat(y, 3, 0, 0, 2);
        Due.seat(y, 2, 0, 0, 1);
        Due.seat(y, 1, 0, 0, 0);
        Due.seat(y, 0, 0, 0, 3);
        orderIs(y, "b9", 0, 1, 2, 3, 4);
        orderIs(y, "f2", 3, 4, 1, 2, 0);
        orderIs(y, "f3", 2, 3, 4, 0, 1);
        orderIs(y, "b3", 0, 1, 2, 3, 4);
        orderIs(y, "g", 3, 2, 1, 0, 4);
    }

    private static void orderByKeys() {
        RowsIntoPlane x = new RowsIntoPlane();
        x.cabin(4, 2, 0);
        Due.seat(x, 0, 1, 0, 1);
        Due.seat(x, 0, 1, 1, 0);
        Due.seat(x, 3, 0, 0, 1);
        Due.seat(x, 3, 0, 1, 2);
        Due.seat(x, 2, 1, 1, 1);
        orderIs(x, "w,b1", 3, 4, 1, 2, 0);
        orderIs(x, "b2,w", 3, 4, 2, 1, 0);
        orderIs(x, "o,g", 2, 3, 1, 0, 4);
        orderIs(x, "s,a,f1", 0, 1, 4, 2, 3);
        orderIs(x, "g,o,b9,w", 1, 2, 4, 0, 3);
        orderIs(x, "w,w,w,a", 1, 3, 4, 0, 2);
    }

    private static void orderOfKinds() {
        RowsIntoPlane x = new RowsIntoPlane();
        x.cabin(6, 1, 0);
        x.person(1, NONE, 0, 0, 0, 0, 0);
        x.person(0, NONE, 1, 0, 0, 0, 0);
        x.person(2, NONE, 2, 0, 0, 0, 0);
        x.person(1, NONE, 3, 0, 0, 0, 0);
        x.person(0, NONE, 4, 0, 0, 0, 0);
        x.person(2, NONE, 5, 0, 0, 0, 0);
        orderIs(x, "f1", 2, 5, 1, 4, 0, 3);
        orderIs(x, "b1", 5, 2, 4, 1, 3, 0);
    }

    private static void orderOfGroups() {
        RowsIntoPlane x = new RowsIntoPlane();
        x.cabin(8, 1, 0);
        Due.seat(x, 0, 0, 0, 0);
        x.person(3, 0, 7, 0, 0, 0, 0);
        Due.seat(x, 3, 0, 0, 0);
        x.person(3, 1, 1, 0, 0, 0, 0);
        x.person(3, 0, 6, 0, 0, 0, 0);
        x.person(1, NONE, 5, 0, 0, 0, 0);
        x.person(3, 5, 2, 0, 0, 0, 0);
        // 1 behind 0, then 3 behind 1, then 4 behind 0 and so ahead of 1.
        orderIs(x, "f1", 0, 4, 1, 3, 2, 5, 6);
        orderIs(x, "b1", 2, 0, 4, 1, 3, 5, 6);
    }

    private static void orderRefused() {
        RowsIntoPlane x = new RowsIntoPlane();
        Due.call(x, "w");
        due.is("no cabin", x.order(0, 0), STATE);
        due.is("no cabin ahead of i", x.order(0, 99), STATE);
        due.is("call ahead of no cabin", x.order(1, 0), UNKNOWN);
        x.cabin(2, 1, 0);
        due.is("nobody", x.order(0, 0), NONE);
        Due.seat(x, 0, 0, 0, 0);
        due.is("the first", x.order(0, 0), 0);
        due.is("there is no second", x.order(0, 1), NONE);
        due.is("nor a twelfth", x.order(0, 11), NONE);
        for (int v : new int[] {-1, 12, LEAST, MOST}) {
            due.is("i of " + v, x.order(0, v), OUTSIDE);
            due.is("call of " + v, x.order(v, 0), UNKNOWN);
            due.is("call and i of " + v, x.order(v, v), UNKNOWN);
        }
    }
}
