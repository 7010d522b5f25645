/** What the document says of THE PAGE, CALLS and THE ORDER, and promises 7 to 11, at their edges. */
final class CallSentences {
    private static final int NONE = RowsIntoPlane.NONE, UNKNOWN = RowsIntoPlane.UNKNOWN;
    private static final int OUTSIDE = RowsIntoPlane.OUTSIDE, STATE = RowsIntoPlane.STATE;
    private static final int FULL = RowsIntoPlane.FULL;
    private static final int LAST_CODE = 126;

    private final Said said;
    private final Histories in;

    CallSentences(Said said, Histories histories) {
        this.said = said;
        in = histories;
    }

    void test() {
        calls();
        keys();
        numbers();
        byDepth();
        byRowSideAndBags();
        orderOfKinds();
        orderByKeys();
        likeOnes();
        rowsAtATime();
        orderByRowsAtATime();
        orderOfGroups();
        letters();
        lettersOutside();
        lettersFull();
        blank();
        fault();
        call();
        callRefused();
        order();
    }

    private static RowsIntoPlane page(String text) {
        RowsIntoPlane x = new RowsIntoPlane();
        Due.write(x, text);
        return x;
    }

    private static int faultOf(String text) {
        return page(text).fault();
    }

    private static int callOf(String text) {
        return page(text).call();
    }

    private void orderIs(RowsIntoPlane x, String text, int... want) {
        int call = Due.call(x, text);
        for (int i = 0; i < 12; i++) {
            said.is("'" + text + "' at " + i, x.order(call, i), i < want.length ? want[i] : NONE);
        }
    }

    private void calls() {
        said.terms("CALLS (8 at most, numbered) are texts");
        RowsIntoPlane x = new RowsIntoPlane();
        for (int i = 0; i < 8; i++) {
            said.is("the number", Due.call(x, "w"), i);
            said.is("how many", x.count(4), i + 1);
        }
        said.is("a ninth", Due.call(x, "w"), FULL);
        said.is("eight", x.count(4), 8);
    }

    private void keys() {
        said.terms("one to four KEYS with \",\" between");
        said.is("none", callOf(""), STATE);
        said.is("one", callOf("w"), 0);
        said.is("four", callOf("w,a,s,o"), 0);
        said.is("four of two letters", callOf("b1,f2,b3,f4"), 0);
        said.is("five", callOf("w,a,s,o,g"), STATE);
        said.is("five: where", faultOf("w,a,s,o,g"), 7);
        said.is("none behind the last", callOf("w,"), STATE);
        said.is("none ahead of the first", callOf(",w"), STATE);
        said.is("none between two", callOf("w,,a"), STATE);
        said.is("nothing between two", callOf("wa"), STATE);
        for (int code = 1; code <= LAST_CODE; code++) {
            String letter = String.valueOf((char) code);
            boolean isKey = "bfwasog".contains(letter);
            said.is("a KEY by code " + code, faultOf(letter), isKey ? 1 : 0);
            said.is("a second KEY by code " + code, faultOf("w," + letter), isKey ? 3 : 2);
            boolean isComma = code == ',';
            said.is("behind a KEY code " + code, faultOf("g" + letter), isComma ? 2 : 1);
            said.is("behind three KEYS code " + code, faultOf("w,w,w" + letter), isComma ? 6 : 5);
            said.is("behind four KEYS code " + code, faultOf("w,w,w,w" + letter), 7);
            said.is("behind four KEYS with numbers code " + code, faultOf("b1,b2,b3,f4" + letter), 11);
        }
    }

    private void numbers() {
        said.terms("\"b\" or \"f\" and a number (1 to 9)");
        for (String key : new String[] {"b", "f"}) {
            for (int code = 1; code <= LAST_CODE; code++) {
                boolean isNumber = code >= '1' && code <= '9';
                said.is(key + " and code " + code, faultOf(key + (char) code), isNumber ? 2 : 1);
                said.is(key + " and code " + code + " as a CALL", callOf(key + (char) code), isNumber ? 0 : STATE);
                said.is(key + "1 and code " + code, faultOf(key + "1" + (char) code), code == ',' ? 3 : 2);
            }
            said.is(key + " alone", callOf(key), STATE);
        }
        for (String key : new String[] {"w", "a", "s", "o", "g"}) {
            said.is(key + " without a number", callOf(key), 0);
            said.is(key + " with a number", callOf(key + "1"), STATE);
        }
    }

    private void byDepth() {
        RowsIntoPlane x = new RowsIntoPlane();
        x.cabin(2, 3, 0);
        Due.seat(x, 0, 0, 1, 0);
        Due.seat(x, 0, 0, 0, 0);
        Due.seat(x, 0, 0, 2, 0);
        Due.seat(x, 1, 0, 1, 0);
        Due.seat(x, 1, 0, 0, 0);
        Due.seat(x, 1, 0, 2, 0);
        said.terms("\"w\" windows ahead (greatest DEPTH)");
        orderIs(x, "w", 2, 5, 0, 3, 1, 4);
        said.terms("\"a\" aisle seats ahead");
        orderIs(x, "a", 1, 4, 0, 3, 2, 5);
    }

    private void byRowSideAndBags() {
        RowsIntoPlane x = new RowsIntoPlane();
        x.cabin(12, 1, 0);
        Due.seat(x, 11, 1, 0, 3);
        Due.seat(x, 10, 0, 0, 2);
        Due.seat(x, 1, 1, 0, 0);
        Due.seat(x, 0, 0, 0, 1);
        Due.seat(x, 11, 0, 0, 0);
        said.terms("\"s\" even ROWS ahead");
        orderIs(x, "s", 1, 3, 0, 2, 4);
        said.terms("\"o\" SIDE 0 ahead");
        orderIs(x, "o", 1, 3, 4, 0, 2);
        said.terms("\"g\" those with fewer BAGS ahead");
        orderIs(x, "g", 2, 4, 3, 1, 0);
    }

    private void orderOfKinds() {
        said.terms("THE ORDER by a CALL: HASTY ones ahead of all, LATE ones behind all");
        RowsIntoPlane x = new RowsIntoPlane();
        x.cabin(12, 1, 0);
        x.person(1, NONE, 11, 0, 0, 0, 0);
        x.person(0, NONE, 10, 0, 0, 0, 0);
        x.person(2, NONE, 0, 0, 0, 3, 0);
        x.person(1, NONE, 9, 0, 0, 0, 0);
        x.person(2, NONE, 1, 0, 0, 3, 0);
        x.person(0, NONE, 8, 0, 0, 0, 0);
        // By "b1" alone the rows 11, 10, 9, 8, 1, 0 would come.
        orderIs(x, "b1", 4, 2, 1, 5, 0, 3);
        orderIs(x, "g,b1", 4, 2, 1, 5, 0, 3);
    }

    private void orderByKeys() {
        said.terms("within these by the first KEY, of like ones by the second, and so on, then by number");
        RowsIntoPlane x = new RowsIntoPlane();
        x.cabin(4, 2, 0);
        Due.seat(x, 1, 1, 1, 1);
        Due.seat(x, 1, 1, 0, 1);
        Due.seat(x, 1, 0, 0, 1);
        Due.seat(x, 0, 0, 0, 1);
        Due.seat(x, 0, 0, 1, 0);
        orderIs(x, "s", 3, 4, 0, 1, 2);
        orderIs(x, "s,o", 3, 4, 2, 0, 1);
        orderIs(x, "s,o,a", 3, 4, 2, 1, 0);
        orderIs(x, "s,o,a,g", 3, 4, 2, 1, 0);
        orderIs(x, "s,s,s,g", 4, 3, 0, 1, 2);
        orderIs(x, "b9,b9,b9,b9", 0, 1, 2, 3, 4);
    }

    /** Of those who are alike by a KEY nothing else tells who is ahead, but their number. */
    private void likeOnes() {
        said.terms("of like ones by the second, and so on, then by number");
        for (String text : new String[] {"b1", "f1", "s", "b1,f1,b1,f1"}) {
            orderIs(people(new int[] {2, 1, 1, 3}, new int[] {2, 0, 2, 2}, new int[] {2, 1, 0, 1}), text, 0, 1, 2);
        }
        for (String text : new String[] {"w", "a", "w,a"}) {
            orderIs(people(new int[] {2, 1, 1, 3}, new int[] {1, 0, 1, 1}, new int[] {3, 1, 1, 0}), text, 0, 1, 2);
        }
        orderIs(people(new int[] {3, 1, 1, 3}, new int[] {2, 1, 0, 1}, new int[] {4, 1, 2, 0}), "o", 0, 1, 2);
        orderIs(people(new int[] {3, 1, 1, 2}, new int[] {2, 0, 0, 2}, new int[] {4, 1, 2, 2}), "g", 0, 1, 2);
    }

    /** Each by ROW, SIDE, DEPTH and BAGS, in a CABIN of 5 ROWS. */
    private static RowsIntoPlane people(int[]... seats) {
        RowsIntoPlane x = new RowsIntoPlane();
        x.cabin(5, 3, 0);
        for (int[] seat : seats) {
            Due.seat(x, seat[0], seat[1], seat[2], seat[3]);
        }
        return x;
    }

    /** Of a group of ROWS all come, by number, ahead of the next group; the last one has those that are left. */
    private void rowsAtATime() {
        said.terms("\"b\" or \"f\" and a number (1 to 9): so many ROWS at a time from the back, from the front");
        for (int rows = 2; rows <= 12; rows++) {
            for (int n = 1; n <= 9; n++) {
                RowsIntoPlane x = new RowsIntoPlane();
                x.cabin(rows, 1, 0);
                // By number the even rows, then the others.
                int half = (rows + 1) / 2;
                for (int i = 0; i < rows; i++) {
                    Due.seat(x, i < half ? 2 * i : 2 * (i - half) + 1, 0, 0, 0);
                }
                groupsAre(x, "f" + n, rows, n, true);
                groupsAre(x, "b" + n, rows, n, false);
            }
        }
    }

    private void groupsAre(RowsIntoPlane x, String text, int rows, int n, boolean fromTheFront) {
        int call = Due.call(x, text);
        for (int i = 0; i < rows; i++) {
            int row = x.about(x.order(call, i), 2);
            int ahead = fromTheFront ? row : rows - 1 - row;
            said.is(text + " of " + rows + " at " + i + ", by groups", ahead / n, i / n);
            if (i % n > 0) {
                boolean byNumber = x.order(call, i) > x.order(call, i - 1);
                said.isTrue(text + " of " + rows + " at " + i + ", by number", byNumber);
            }
        }
    }

    private void orderByRowsAtATime() {
        said.terms("(By \"b\" of n: the greater ROWS less 1 less ROW by n, rounded down, the later; by \"f\" of n ROW by "
            + "n likewise.)");
        RowsIntoPlane x = new RowsIntoPlane();
        x.cabin(12, 1, 0);
        for (int row = 0; row < 12; row++) {
            Due.seat(x, row, 0, 0, 0);
        }
        orderIs(x, "b1", 11, 10, 9, 8, 7, 6, 5, 4, 3, 2, 1, 0);
        orderIs(x, "b5", 7, 8, 9, 10, 11, 2, 3, 4, 5, 6, 0, 1);
        orderIs(x, "b6", 6, 7, 8, 9, 10, 11, 0, 1, 2, 3, 4, 5);
        orderIs(x, "b9", 3, 4, 5, 6, 7, 8, 9, 10, 11, 0, 1, 2);
        // ROWS less 1, not ROWS: of 11 the first nine are rows 10 to 2.
        x.cabin(11, 1, 0);
        for (int row = 0; row < 11; row++) {
            Due.seat(x, row, 0, 0, 0);
        }
        orderIs(x, "b9", 2, 3, 4, 5, 6, 7, 8, 9, 10, 0, 1);
        x.cabin(12, 1, 0);
        for (int row = 11; row >= 0; row--) {
            Due.seat(x, row, 0, 0, 0);
        }
        orderIs(x, "f1", 11, 10, 9, 8, 7, 6, 5, 4, 3, 2, 1, 0);
        orderIs(x, "f5", 7, 8, 9, 10, 11, 2, 3, 4, 5, 6, 0, 1);
        orderIs(x, "f9", 3, 4, 5, 6, 7, 8, 9, 10, 11, 0, 1, 2);
    }

    private void orderOfGroups() {
        said.terms("Then each GROUPED, in order of number, is taken out and put in just behind n.");
        RowsIntoPlane x = new RowsIntoPlane();
        x.cabin(8, 1, 0);
        x.person(1, NONE, 7, 0, 0, 0, 0);
        x.person(2, NONE, 6, 0, 0, 0, 0);
        x.person(3, 0, 5, 0, 0, 0, 0);
        x.person(3, 1, 4, 0, 0, 0, 0);
        x.person(3, 0, 3, 0, 0, 0, 0);
        x.person(3, 2, 2, 0, 0, 0, 0);
        Due.seat(x, 1, 0, 0, 0);
        // 1, 6, 0 of the others. 2 behind 0, 3 behind 1, 4 behind 0 (ahead of 2), 5 behind 2.
        orderIs(x, "f1", 1, 3, 6, 0, 4, 2, 5);
        orderIs(x, "b1", 1, 3, 6, 0, 4, 2, 5);
    }

    private void letters() {
        said.promise(7, "Letters come behind THE PAGE, up to eight, told by their codes in the bytes of w, the lowest "
            + "byte first, until a byte that is 0: how many THE PAGE has.");
        said.is("no letter", new RowsIntoPlane().letters(0L), 0);
        for (int many = 1; many <= 8; many++) {
            said.is(many + " letters", new RowsIntoPlane().letters(Due.bytes("abcdefgh".substring(0, many))), many);
        }
        RowsIntoPlane x = new RowsIntoPlane();
        said.is("'w' and ','", x.letters(0x2c77L), 2);
        said.is("'b' and '9'", x.letters(0x3962L), 4);
        said.is("none behind four", x.letters(0L), 4);
        said.is("the lowest byte is first, and they come behind", x.fault(), 4);
        said.is("a CALL", x.call(), 0);
        said.is("code 1", x.letters(1L), 1);
        said.is("code 126 eight times", x.letters(0x7e7e7e7e7e7e7e7eL), 9);
    }

    private void lettersOutside() {
        said.promise(7, "OUTSIDE: a byte above 126,");
        for (int place = 0; place < 8; place++) {
            long ahead = Due.bytes("wwwwwww".substring(0, place));
            long w = ahead | 126L << 8 * place;
            said.is("126 at " + place, new RowsIntoPlane().letters(w), place + 1);
            for (long code : new long[] {127L, 128L, 255L}) {
                long wrong = ahead | code << 8 * place;
                in.cabinless.refuse(code + " at " + place, x -> x.letters(wrong), OUTSIDE);
            }
        }
        in.some.refuse("all bytes 255", x -> x.letters(-1L), OUTSIDE);
        in.some.refuse("128 behind zeros", x -> x.letters(Long.MIN_VALUE), OUTSIDE);
        in.some.refuse("127 behind 255s", x -> x.letters(Long.MAX_VALUE), OUTSIDE);
        in.full.refuse("ahead of FULL", x -> x.letters(127L), OUTSIDE);
        in.full.refuse("the eighth, ahead of FULL", x -> x.letters(0x7f77777777777777L), OUTSIDE);
        said.promise(7, "or one behind a 0 that is not 0;");
        for (int zero = 0; zero < 7; zero++) {
            long ahead = Due.bytes("wwwwwww".substring(0, zero));
            said.is("a 0 at " + zero, new RowsIntoPlane().letters(ahead), zero);
            for (int place = zero + 1; place < 8; place++) {
                long wrong = ahead | 1L << 8 * place;
                in.cabinless.refuse("a 0 at " + zero + ", none at " + place, x -> x.letters(wrong), OUTSIDE);
            }
        }
        in.full.refuse("ahead of FULL", x -> x.letters(0x770077L), OUTSIDE);
    }

    private void lettersFull() {
        said.promise(7, "FULL: above 16.");
        for (int had = 9; had <= 16; had++) {
            String text = "wwwwwwwwwwwwwwww".substring(0, had);
            Twins twins = new Twins(said, had + " letters", x -> Due.write(x, text));
            String fitting = "aaaaaaaa".substring(0, 16 - had);
            said.is("up to 16 behind " + had, twins.made().letters(Due.bytes(fitting)), 16);
            twins.refuse("up to 17", x -> x.letters(Due.bytes(fitting + "a")), FULL);
            twins.refuse("eight more", x -> x.letters(Due.bytes("aaaaaaaa")), FULL);
        }
        said.is("eight behind eight", page("wwwwwwww").letters(Due.bytes("aaaaaaaa")), 16);
        said.is("none behind 16", in.full.made().letters(0L), 16);
        in.full.refuse("one behind 16", x -> x.letters(1L), FULL);
        RowsIntoPlane x = in.full.made();
        x.blank();
        said.is("there is room behind blank()", x.letters(Due.bytes("aaaaaaaa")), 8);
    }

    private void blank() {
        said.promise(8, "THE PAGE is empty: how many letters it had.");
        said.is("none", new RowsIntoPlane().blank(), 0);
        for (Twins twins : new Twins[] {in.cabinless, in.some, in.full}) {
            RowsIntoPlane x = twins.made();
            int had = x.count(5);
            said.is("as many as there were", x.blank(), had);
            said.is("empty then", x.count(5), 0);
            said.is("none again", x.blank(), 0);
            said.is("it has no letter", x.fault(), 0);
        }
        said.is("16", in.full.made().blank(), 16);
    }

    private void fault() {
        said.promise(9, "The place (from 0) of the first letter of THE PAGE that no CALL has there, behind those ahead "
            + "of it;");
        said.is("the first letter", faultOf("x"), 0);
        said.is("the first of two", faultOf("xy"), 0);
        said.is("the first of 16", faultOf("0123456789012345"), 0);
        said.is("the second", faultOf("w1"), 1);
        said.is("the third", faultOf("b11"), 2);
        said.is("of two faults the first", faultOf("w,x,y"), 2);
        said.is("the twelfth", faultOf("b1,b2,b3,b4,"), 11);
        said.is("the twelfth of 16", faultOf("b1,b2,b3,b4,w,a,"), 11);
        said.is("the last of 15", faultOf("w,w,w,b1,w,w,w,"), 8);
        said.promise(9, "how many letters it has, if there is none.");
        said.is("none", new RowsIntoPlane().fault(), 0);
        String longest = "b1,f9,b5,f2";
        for (int many = 0; many <= longest.length(); many++) {
            said.is("the first " + many + " letters of a CALL", faultOf(longest.substring(0, many)), many);
        }
        said.is("of eight letters", faultOf("w,a,s,b1"), 8);
        for (Twins twins : new Twins[] {in.some, in.full}) {
            RowsIntoPlane x = twins.made();
            long before = x.digest();
            int place = x.fault();
            said.is("THE PAGE is as it was", x.digest(), before);
            said.is("so is its fault", x.fault(), place);
        }
    }

    private void call() {
        said.promise(10, "THE PAGE is read as a CALL: its number; THE PAGE is empty then.");
        RowsIntoPlane x = new RowsIntoPlane();
        String[] texts = {"w", "b1", "f9", "w,a,s,o", "b1,f2,b3,f4", "g", "o,b9", "s"};
        for (int i = 0; i < texts.length; i++) {
            Due.write(x, texts[i]);
            said.is(texts[i], x.call(), i);
            said.is("the letters then", x.count(5), 0);
            said.is("nothing to read then", x.call(), STATE);
        }
        said.is("without a CABIN, too", x.count(0), 0);
    }

    private void callRefused() {
        said.promise(10, "STATE: it is none;");
        in.fresh.refuse("an empty PAGE", RowsIntoPlane::call, STATE);
        in.nobody.refuse("an empty PAGE with a CABIN", RowsIntoPlane::call, STATE);
        in.cabinless.refuse("a KEY is missing", RowsIntoPlane::call, STATE);
        in.some.refuse("a number is missing", RowsIntoPlane::call, STATE);
        for (String text : new String[] {"w,", "b", "f", "b0", "b12", "w,w,w,w,", "w,w,w,w,w", "x", "ww", "W", " w"}) {
            Twins twins = new Twins(said, "'" + text + "'", x -> Due.write(x, text));
            twins.refuse("no CALL", RowsIntoPlane::call, STATE);
        }
        in.full.refuse("ahead of FULL", RowsIntoPlane::call, STATE);
        said.promise(10, "STATE: it is none; FULL.");
        in.ninth.refuse("a ninth", RowsIntoPlane::call, FULL);
        RowsIntoPlane x = in.ninth.made();
        x.blank();
        said.is("an empty PAGE ahead of FULL", x.call(), STATE);
    }

    private void order() {
        said.promise(11, "The i-th of THE ORDER (NONE: there is none).");
        RowsIntoPlane x = in.nobody.made();
        for (int i = 0; i <= 11; i++) {
            said.is("nobody", x.order(0, i), NONE);
        }
        x = in.some.made();
        // By "b2,w" 2 is HASTY, 0 in between, 1 is LATE, 3 is with 1, 4 with 3.
        int[] want = {2, 0, 1, 3, 4, NONE, NONE, NONE, NONE, NONE, NONE, NONE};
        for (int i = 0; i <= 11; i++) {
            said.is("some, at " + i, x.order(0, i), want[i]);
        }
        said.is("twelve: the first", in.full.made().order(0, 0), 11);
        said.is("twelve: the last", in.full.made().order(0, 11), 1);
        said.promise(11, "UNKNOWN; STATE; OUTSIDE: i (0 to 11).");
        in.some.bounds("i", 0, 11, (y, v) -> y.order(1, v), OUTSIDE);
        in.some.bounds("call", 0, 1, (y, v) -> y.order(v, 0), UNKNOWN);
        in.full.bounds("call", 0, 7, (y, v) -> y.order(v, 0), UNKNOWN);
        in.callless.refuse("no CALLS", y -> y.order(0, 0), UNKNOWN);
        in.fresh.refuse("UNKNOWN ahead of STATE", y -> y.order(0, 0), UNKNOWN);
        in.cabinless.refuse("UNKNOWN ahead of STATE, with CALLS", y -> y.order(3, 0), UNKNOWN);
        in.some.refuse("UNKNOWN ahead of OUTSIDE", y -> y.order(2, 12), UNKNOWN);
        in.fresh.refuse("UNKNOWN ahead of both", y -> y.order(-1, -1), UNKNOWN);
        in.cabinless.refuse("STATE", y -> y.order(2, 0), STATE);
        in.cabinless.refuse("STATE ahead of OUTSIDE", y -> y.order(2, 12), STATE);
    }
}
