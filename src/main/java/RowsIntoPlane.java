/** Boarding an aeroplane by calls, and leaving it by manners, as ../shared/DOC.md tells. */
public final class RowsIntoPlane {
    public static final int NONE = -1, UNKNOWN = -101, OUTSIDE = -102, STATE = -103, FULL = -104;

    private static final int PERSON = 0, LATE = 1, HASTY = 2, GROUPED = 3;
    private static final int BAGS = 5, WORTH = 6;
    private static final int LEAST_ROWS = 2, MOST_ROWS = 12, MOST_WIDE = 3, MOST_ROOM = 6;
    private static final int MOST_PEOPLE = 12, MOST_BAGS = 3, MOST_WORTH = 999;
    private static final int MOST_CALLS = 8, MOST_KEYS = 4, MOST_LETTERS = 16, LETTERS_AT_ONCE = 8;
    private static final int LAST_CODE = 126;
    private static final int BEST_PEOPLE = 6, ORDERS_OF_BEST = 720, MOST_BEST = 20;
    private static final int LAST_SECOND = 999, MOST_MIXED = 9, MOST_STEP = 99;
    // Twelve people with three bags each are through in less than a tenth of this.
    private static final int LONGEST = 9999;

    private final Cabin cabin = new Cabin();
    private final People people = new People();
    private final Image image = new Image();
    private final Page page = new Page();
    private final Call[] calls = new Call[MOST_CALLS];
    private final Line line = new Line();
    private final Line best = new Line();
    private final Boarding boarding;
    private final Leaving leaving;
    private int callCount;
    private int bestDone;

    public RowsIntoPlane() {
        for (int i = 0; i < MOST_CALLS; i++) {
            calls[i] = new Call();
        }
        boarding = new Boarding(people);
        leaving = new Leaving(people);
    }

    // ---- the cabin, people, calls

    public int cabin(int rows, int wide, int room) {
        if (outside(rows, LEAST_ROWS, MOST_ROWS) || outside(wide, 1, MOST_WIDE) || outside(room, 0, MOST_ROOM)) {
            return OUTSIDE;
        }
        cabin.build(rows, wide, room);
        people.size = 0;
        image.isKept = false;
        return cabin.seats();
    }

    public int person(int kind, int n, int row, int side, int depth, int bags, int worth) {
        if (cabin.isMissing()) {
            return STATE;
        }
        if (outside(kind, PERSON, GROUPED)) {
            return OUTSIDE;
        }
        if (kind == GROUPED ? !people.has(n) : n != NONE) {
            return UNKNOWN;
        }
        if (!cabin.hasSeat(row, side, depth) || outside(bags, 0, MOST_BAGS) || outside(worth, 0, MOST_WORTH)) {
            return OUTSIDE;
        }
        if (people.haveSeat(row, side, depth)) {
            return STATE;
        }
        if (people.size >= MOST_PEOPLE) {
            return FULL;
        }
        int person = people.size;
        people.kind[person] = kind;
        people.with[person] = n;
        people.row[person] = row;
        people.side[person] = side;
        people.depth[person] = depth;
        people.bags[person] = bags;
        people.worth[person] = worth;
        people.size++;
        return person;
    }

    public int as(int person, int kind) {
        if (!people.has(person)) {
            return UNKNOWN;
        }
        if (outside(kind, PERSON, GROUPED)) {
            return OUTSIDE;
        }
        return people.isA(person, kind) ? person : NONE;
    }

    public int about(int person, int what) {
        if (!people.has(person)) {
            return UNKNOWN;
        }
        return outside(what, 0, WORTH) ? OUTSIDE : people.tell(person, what);
    }

    public int change(int person, int what, int v) {
        if (!people.has(person)) {
            return UNKNOWN;
        }
        if (outside(what, BAGS, WORTH) || outside(v, 0, what == BAGS ? MOST_BAGS : MOST_WORTH)) {
            return OUTSIDE;
        }
        int was = people.tell(person, what);
        if (what == BAGS) {
            people.bags[person] = v;
        } else {
            people.worth[person] = v;
        }
        return was;
    }

    public int letters(long w) {
        int coming = Page.lettersIn(w);
        if (coming == NONE) {
            return OUTSIDE;
        }
        if (page.size + coming > MOST_LETTERS) {
            return FULL;
        }
        page.write(w, coming);
        return page.size;
    }

    public int blank() {
        int had = page.size;
        page.size = 0;
        return had;
    }

    public int fault() {
        return page.firstFault();
    }

    public int call() {
        if (!page.isCall()) {
            return STATE;
        }
        if (callCount >= MOST_CALLS) {
            return FULL;
        }
        calls[callCount].read(page);
        page.size = 0;
        callCount++;
        return callCount - 1;
    }

    // ---- boarding

    public int order(int call, int i) {
        int refusal = refusalOf(call);
        if (refusal != 0) {
            return refusal;
        }
        if (outside(i, 0, MOST_PEOPLE - 1)) {
            return OUTSIDE;
        }
        lineUp(call, MOST_BAGS);
        return i < line.size ? line.who[i] : NONE;
    }

    public int board(int call, int what) {
        int refusal = refusalOf(call);
        if (refusal != 0) {
            return refusal;
        }
        if (outside(what, 0, 2)) {
            return OUTSIDE;
        }
        boardBy(call, MOST_BAGS, LONGEST);
        return boarding.tell(what);
    }

    public int sits(int call, int person, int what) {
        if (!hasCall(call) || !people.has(person)) {
            return UNKNOWN;
        }
        if (outside(what, 0, 4)) {
            return OUTSIDE;
        }
        boardBy(call, MOST_BAGS, LONGEST);
        return boarding.tellOf(person, what);
    }

    public int stands(int call, int second, int cell) {
        int refusal = refusalOf(call);
        if (refusal != 0) {
            return refusal;
        }
        if (outside(second, 1, LAST_SECOND) || outside(cell, 0, cabin.rows - 1)) {
            return OUTSIDE;
        }
        boardBy(call, MOST_BAGS, second);
        return boarding.aisle[cell];
    }

    public int least() {
        if (cabin.isMissing()) {
            return STATE;
        }
        int found = NONE;
        int seconds = LONGEST + 1;
        for (int i = 0; i < callCount; i++) {
            boardBy(i, MOST_BAGS, LONGEST);
            if (boarding.seconds < seconds) {
                seconds = boarding.seconds;
                found = i;
            }
        }
        return found;
    }

    public int bestOrder(int what) {
        if (cabin.isMissing()) {
            return STATE;
        }
        if (outside(what, 0, BEST_PEOPLE)) {
            return OUTSIDE;
        }
        if (people.size > BEST_PEOPLE || bestDone >= MOST_BEST) {
            return STATE;
        }
        bestDone++;
        int seconds = findBest();
        if (what == 0) {
            return seconds;
        }
        return what <= best.size ? best.who[what - 1] : NONE;
    }

    public int swap(int call) {
        int refusal = refusalOf(call);
        if (refusal != 0) {
            return refusal;
        }
        boardBy(call, MOST_BAGS, LONGEST);
        int seconds = boarding.seconds;
        int found = NONE;
        for (int first = 0; first < line.size; first++) {
            for (int second = first + 1; second < line.size; second++) {
                line.exchange(first, second);
                if (boarding.isThrough(line, seconds - 1)) {
                    seconds = boarding.seconds;
                    found = 16 * first + second;
                }
                line.exchange(first, second);
            }
        }
        return found;
    }

    public int later(int call, int person) {
        if (!hasCall(call) || !people.has(person)) {
            return UNKNOWN;
        }
        lineUp(call, MOST_BAGS);
        line.takeOut(person);
        line.putIn(line.size, person);
        boarding.openWhole(cabin, MOST_BAGS);
        boarding.run(line, LONGEST);
        return boarding.seconds;
    }

    public int bound(int call, int bags) {
        int refusal = refusalOf(call);
        if (refusal != 0) {
            return refusal;
        }
        if (outside(bags, 0, MOST_BAGS)) {
            return OUTSIDE;
        }
        boardBy(call, bags, LONGEST);
        return boarding.seconds;
    }

    public int doors(int call) {
        int refusal = refusalOf(call);
        return refusal != 0 ? refusal : secondsByDoors(call);
    }

    public int mixed(int n, int seed, int what) {
        if (cabin.isMissing()) {
            return STATE;
        }
        if (outside(n, 1, MOST_MIXED) || seed < 0 || outside(what, 0, 2)) {
            return OUTSIDE;
        }
        boarding.openWhole(cabin, MOST_BAGS);
        int least = LONGEST;
        int greatest = 0;
        int then = seed;
        for (int i = 0; i < n; i++) {
            line.byNumber(people.size);
            then = line.mix(then);
            boarding.run(line, LONGEST);
            least = Math.min(least, boarding.seconds);
            greatest = Math.max(greatest, boarding.seconds);
        }
        if (what == 0) {
            return least;
        }
        return what == 1 ? greatest : then;
    }

    // ---- out, staying

    public int out(int manner) {
        if (cabin.isMissing()) {
            return STATE;
        }
        if (outside(manner, 0, 2)) {
            return OUTSIDE;
        }
        leaving.run(cabin.rows, manner);
        return leaving.seconds;
    }

    public int outOf(int person, int manner) {
        if (!people.has(person)) {
            return UNKNOWN;
        }
        if (outside(manner, 0, 2)) {
            return OUTSIDE;
        }
        leaving.run(cabin.rows, manner);
        return leaving.wentOut[person];
    }

    public int missed(int manner) {
        if (cabin.isMissing()) {
            return STATE;
        }
        if (outside(manner, 0, 2)) {
            return OUTSIDE;
        }
        leaving.run(cabin.rows, manner);
        int bits = 0;
        for (int i = 0; i < people.size; i++) {
            if (leaving.wentOut[i] > people.worth[i]) {
                bits |= 1 << i;
            }
        }
        return bits;
    }

    public int stay(int n, int step, int what) {
        if (outside(n, 1, MOST_PEOPLE) || outside(step, 1, MOST_STEP) || outside(what, 0, 1)) {
            return OUTSIDE;
        }
        if (people.size < n) {
            return NONE;
        }
        int price = 0;
        while (price < MOST_WORTH && people.thatStayFor(price) < n) {
            price += step;
        }
        return what == 0 ? price : price * n;
    }

    // ---- what is told

    public int image() {
        if (cabin.isMissing()) {
            return STATE;
        }
        image.keep(people);
        return people.size;
    }

    public int restore() {
        if (!image.isKept) {
            return STATE;
        }
        image.giveBack(people);
        return people.size;
    }

    public int count(int what) {
        switch (what) {
            case 0: return cabin.rows;
            case 1: return cabin.seats();
            case 2: return cabin.room;
            case 3: return people.size;
            case 4: return callCount;
            case 5: return page.size;
            case 6: return cabin.built;
            case 7: return bestDone;
            case 8: return people.bagsOfAll();
            default: return OUTSIDE;
        }
    }

    public long digest() {
        long h = 523;
        for (int i = 0; i < people.size; i++) {
            for (int what = 0; what <= WORTH; what++) {
                h = 31 * h + people.tell(i, what);
            }
        }
        // Without a CABIN these calls are refused: a refusal is no number that they tell.
        if (!cabin.isMissing()) {
            for (int i = 0; i < callCount; i++) {
                h = withCall(h, i);
            }
            for (int manner = 0; manner <= 2; manner++) {
                h = 31 * h + out(manner);
            }
            h = 31 * h + least();
            for (int what = 0; what <= 2; what++) {
                h = 31 * h + mixed(2, 5, what);
            }
        }
        for (int i = 0; i < page.size; i++) {
            h = 31 * h + page.letters[i];
        }
        for (int what = 0; what <= 8; what++) {
            h = 31 * h + count(what);
        }
        return h;
    }

    // ---- what the calls share

    private static boolean outside(int v, int least, int most) {
        return v < least || v > most;
    }

    private boolean hasCall(int call) {
        return call >= 0 && call < callCount;
    }

    /** UNKNOWN or STATE, as every call that boards by a CALL refuses first; 0: neither. */
    private int refusalOf(int call) {
        if (!hasCall(call)) {
            return UNKNOWN;
        }
        return cabin.isMissing() ? STATE : 0;
    }

    private void lineUp(int call, int mostBags) {
        calls[call].arrange(line, people, cabin, mostBags);
    }

    private void boardBy(int call, int mostBags, int lastSecond) {
        lineUp(call, mostBags);
        boarding.openWhole(cabin, mostBags);
        boarding.run(line, lastSecond);
    }

    private int findBest() {
        boarding.openWhole(cabin, MOST_BAGS);
        line.byNumber(people.size);
        best.copy(line);
        int seconds = LONGEST + 1;
        for (int i = 0; i < ORDERS_OF_BEST; i++) {
            if (boarding.isThrough(line, seconds - 1)) {
                seconds = boarding.seconds;
                best.copy(line);
            }
            if (!line.goToNext()) {
                break;
            }
        }
        return seconds;
    }

    private int secondsByDoors(int call) {
        lineUp(call, MOST_BAGS);
        boarding.openFront(cabin, MOST_BAGS);
        boarding.run(line, LONGEST);
        int front = boarding.seconds;
        boarding.openBack(cabin, MOST_BAGS);
        boarding.run(line, LONGEST);
        return Math.max(front, boarding.seconds);
    }

    private long withCall(long before, int call) {
        long h = before;
        boardBy(call, MOST_BAGS, LONGEST);
        for (int i = 0; i < line.size; i++) {
            h = 31 * h + line.who[i];
        }
        for (int what = 0; what <= 2; what++) {
            h = 31 * h + boarding.tell(what);
        }
        return 31 * h + secondsByDoors(call);
    }

    /** THE CABIN; without ROWS there is none. */
    private static final class Cabin {
        int rows;
        int wide;
        int room;
        int built;

        void build(int newRows, int newWide, int newRoom) {
            rows = newRows;
            wide = newWide;
            room = newRoom;
            built++;
        }

        boolean isMissing() {
            return rows == 0;
        }

        int seats() {
            return 2 * rows * wide;
        }

        boolean hasSeat(int row, int side, int depth) {
            return !outside(row, 0, rows - 1) && !outside(side, 0, 1) && !outside(depth, 0, wide - 1);
        }

        /** How many ROWS the door ahead has, where there is one behind, too. */
        int frontRows() {
            return (rows + 1) / 2;
        }
    }

    /** PEOPLE by number, a row for each thing that is told of them. */
    private static final class People {
        final int[] kind = new int[MOST_PEOPLE];
        final int[] with = new int[MOST_PEOPLE];
        final int[] row = new int[MOST_PEOPLE];
        final int[] side = new int[MOST_PEOPLE];
        final int[] depth = new int[MOST_PEOPLE];
        final int[] bags = new int[MOST_PEOPLE];
        final int[] worth = new int[MOST_PEOPLE];
        int size;

        boolean has(int person) {
            return person >= 0 && person < size;
        }

        boolean haveSeat(int ofRow, int ofSide, int ofDepth) {
            for (int i = 0; i < size; i++) {
                if (row[i] == ofRow && side[i] == ofSide && depth[i] == ofDepth) {
                    return true;
                }
            }
            return false;
        }

        boolean isA(int person, int wanted) {
            return wanted == PERSON || kind[person] == wanted || kind[person] == GROUPED && wanted == HASTY;
        }

        int tell(int person, int what) {
            switch (what) {
                case 0: return kind[person];
                case 1: return with[person];
                case 2: return row[person];
                case 3: return side[person];
                case 4: return depth[person];
                case BAGS: return bags[person];
                default: return worth[person];
            }
        }

        int thatStayFor(int price) {
            int many = 0;
            for (int i = 0; i < size; i++) {
                if (worth[i] <= price) {
                    many++;
                }
            }
            return many;
        }

        int bagsOfAll() {
            int many = 0;
            for (int i = 0; i < size; i++) {
                many += bags[i];
            }
            return many;
        }
    }

    /** The one IMAGE: what restore() goes on from. */
    private static final class Image {
        final int[] bags = new int[MOST_PEOPLE];
        final int[] worth = new int[MOST_PEOPLE];
        int size;
        boolean isKept;

        void keep(People people) {
            isKept = true;
            size = people.size;
            System.arraycopy(people.bags, 0, bags, 0, MOST_PEOPLE);
            System.arraycopy(people.worth, 0, worth, 0, MOST_PEOPLE);
        }

        void giveBack(People people) {
            people.size = size;
            System.arraycopy(bags, 0, people.bags, 0, MOST_PEOPLE);
            System.arraycopy(worth, 0, people.worth, 0, MOST_PEOPLE);
        }
    }

    /** THE PAGE, and how it is read as a CALL. */
    private static final class Page {
        private static final int A_KEY = 0, A_NUMBER = 1, A_COMMA = 2, NOTHING = 3;

        final char[] letters = new char[MOST_LETTERS];
        int size;
        /** What may come behind the letters that were read last. */
        private int due;

        /** How many letters the bytes of w tell; NONE: they are not as told. */
        static int lettersIn(long w) {
            int many = 0;
            boolean ended = false;
            for (int i = 0; i < LETTERS_AT_ONCE; i++) {
                int code = codeIn(w, i);
                if (code > LAST_CODE || ended && code != 0) {
                    return NONE;
                }
                if (code == 0) {
                    ended = true;
                } else {
                    many++;
                }
            }
            return many;
        }

        private static int codeIn(long w, int place) {
            return (int) (w >>> 8 * place & 255L);
        }

        void write(long w, int many) {
            for (int i = 0; i < many && size < MOST_LETTERS; i++) {
                letters[size] = (char) codeIn(w, i);
                size++;
            }
        }

        int firstFault() {
            due = A_KEY;
            int keys = 0;
            for (int i = 0; i < size; i++) {
                if (due == A_KEY) {
                    keys++;
                }
                due = dueBehind(letters[i], keys);
                if (due == NOTHING) {
                    return i;
                }
            }
            return size;
        }

        boolean isCall() {
            return firstFault() == size && due == A_COMMA;
        }

        private int dueBehind(char letter, int keys) {
            if (due == A_KEY) {
                return dueBehindKey(letter);
            }
            if (due == A_NUMBER) {
                return letter >= '1' && letter <= '9' ? A_COMMA : NOTHING;
            }
            return letter == ',' && keys < MOST_KEYS ? A_KEY : NOTHING;
        }

        private static int dueBehindKey(char letter) {
            switch (letter) {
                case 'b':
                case 'f':
                    return A_NUMBER;
                case 'w':
                case 'a':
                case 's':
                case 'o':
                case 'g':
                    return A_COMMA;
                default:
                    return NOTHING;
            }
        }
    }

    /** A CALL: its KEYS, and THE ORDER by them. */
    private static final class Call {
        private final char[] keys = new char[MOST_KEYS];
        private final int[] numbers = new int[MOST_KEYS];
        private int size;

        /** Reads a page that is a CALL. */
        void read(Page page) {
            size = 0;
            for (int i = 0; i < page.size; i++) {
                char letter = page.letters[i];
                if (letter == ',') {
                    continue;
                }
                if (letter >= '1' && letter <= '9') {
                    if (size > 0) {
                        numbers[size - 1] = letter - '0';
                    }
                } else if (size < MOST_KEYS) {
                    keys[size] = letter;
                    numbers[size] = 1;
                    size++;
                }
            }
        }

        void arrange(Line line, People people, Cabin cabin, int mostBags) {
            line.size = 0;
            for (int person = 0; person < people.size; person++) {
                int place = line.size;
                while (place > 0 && isAhead(person, line.who[place - 1], people, cabin, mostBags)) {
                    place--;
                }
                line.putIn(place, person);
            }
            for (int person = 0; person < people.size; person++) {
                if (people.kind[person] == GROUPED) {
                    line.takeOut(person);
                    line.putIn(line.placeOf(people.with[person]) + 1, person);
                }
            }
        }

        private boolean isAhead(int person, int other, People people, Cabin cabin, int mostBags) {
            int rank = rankOf(people.kind[person]);
            int otherRank = rankOf(people.kind[other]);
            if (rank != otherRank) {
                return rank < otherRank;
            }
            for (int i = 0; i < size; i++) {
                int mine = valueOf(i, person, people, cabin, mostBags);
                int its = valueOf(i, other, people, cabin, mostBags);
                if (mine != its) {
                    return mine < its;
                }
            }
            return person < other;
        }

        /** A GROUPED is HASTY by the cast alone, so it is not ahead here. */
        private static int rankOf(int kind) {
            if (kind == HASTY) {
                return 0;
            }
            return kind == LATE ? 2 : 1;
        }

        /** Who has the lesser one comes ahead. */
        private int valueOf(int key, int person, People people, Cabin cabin, int mostBags) {
            int rowsAtATime = Math.max(1, numbers[key]);
            switch (keys[key]) {
                case 'b': return (cabin.rows - 1 - people.row[person]) / rowsAtATime;
                case 'f': return people.row[person] / rowsAtATime;
                case 'w': return -people.depth[person];
                case 'a': return people.depth[person];
                case 's': return people.row[person] % 2;
                case 'o': return people.side[person];
                default: return Math.min(people.bags[person], mostBags);
            }
        }
    }

    /** PEOPLE one behind the other. */
    private static final class Line {
        private static final long FACTOR = 1103515245L, SUMMAND = 12345L, SEEDS = 2147483648L;

        final int[] who = new int[MOST_PEOPLE];
        int size;

        void byNumber(int many) {
            size = Math.min(many, MOST_PEOPLE);
            for (int i = 0; i < size; i++) {
                who[i] = i;
            }
        }

        void copy(Line other) {
            size = other.size;
            System.arraycopy(other.who, 0, who, 0, MOST_PEOPLE);
        }

        int placeOf(int person) {
            for (int i = 0; i < size; i++) {
                if (who[i] == person) {
                    return i;
                }
            }
            return NONE;
        }

        void takeOut(int person) {
            int place = placeOf(person);
            if (place == NONE) {
                return;
            }
            size--;
            for (int i = place; i < size; i++) {
                who[i] = who[i + 1];
            }
        }

        void putIn(int place, int person) {
            if (place < 0 || place > size || size >= MOST_PEOPLE) {
                return;
            }
            for (int i = size; i > place; i--) {
                who[i] = who[i - 1];
            }
            who[place] = person;
            size++;
        }

        void exchange(int first, int second) {
            int kept = who[first];
            who[first] = who[second];
            who[second] = kept;
        }

        /** The next order by number; false: this is the last one. */
        boolean goToNext() {
            int place = size - 2;
            while (place >= 0 && who[place] > who[place + 1]) {
                place--;
            }
            if (place < 0) {
                return false;
            }
            int other = size - 1;
            while (other > place && who[other] < who[place]) {
                other--;
            }
            exchange(place, other);
            int last = size - 1;
            for (int i = place + 1; i < last; i++) {
                exchange(i, last);
                last--;
            }
            return true;
        }

        /** MIXED by a SEED: the SEED then. */
        int mix(int seed) {
            long now = seed;
            for (int k = size; k >= 2; k--) {
                now = (FACTOR * now + SUMMAND) % SEEDS;
                exchange(k - 1, (int) (now / 65536 % k));
            }
            return (int) now;
        }
    }

    /** BOARDING through one door, into the CABIN or a part of it. */
    private static final class Boarding {
        private static final int IN_BIN = 4, A_ROW_AWAY = 2, BELOW = 5, GETS_UP = 3;

        private final People people;
        /** As numbered from the door they come through. */
        private final int[] row = new int[MOST_PEOPLE];
        private final int[] bags = new int[MOST_PEOPLE];
        private final int[] coming = new int[MOST_PEOPLE];
        /** How many BAGS more the BIN of each ROW takes. */
        private final int[] left = new int[MOST_ROWS];
        private final int[] busy = new int[MOST_PEOPLE];
        private final int[] sat = new int[MOST_PEOPLE];
        private final int[] waited = new int[MOST_PEOPLE];
        private final int[][] bins = new int[MOST_PEOPLE][MOST_BAGS];
        final int[] aisle = new int[MOST_ROWS];
        private int rows;
        private int room;
        private int many;
        private int seated;
        private int below;
        int seconds;

        Boarding(People ofCabin) {
            people = ofCabin;
        }

        void openWhole(Cabin cabin, int mostBags) {
            open(cabin.rows, cabin.room, mostBags);
            for (int i = 0; i < people.size; i++) {
                row[i] = people.row[i];
            }
        }

        void openFront(Cabin cabin, int mostBags) {
            openWhole(cabin, mostBags);
            rows = cabin.frontRows();
        }

        /** ROWS are numbered from the door behind. */
        void openBack(Cabin cabin, int mostBags) {
            open(cabin.rows - cabin.frontRows(), cabin.room, mostBags);
            for (int i = 0; i < people.size; i++) {
                row[i] = cabin.rows - 1 - people.row[i];
            }
        }

        private void open(int ofRows, int ofRoom, int mostBags) {
            rows = ofRows;
            room = ofRoom;
            for (int i = 0; i < people.size; i++) {
                bags[i] = Math.min(people.bags[i], mostBags);
            }
        }

        /** Do all SIT at the end of that second? */
        boolean isThrough(Line line, int lastSecond) {
            run(line, lastSecond);
            return seated == many;
        }

        /** Until all SIT or that second ends; those of ROWS beyond this part do not come. */
        void run(Line line, int lastSecond) {
            begin(line);
            int came = 0;
            int end = Math.min(lastSecond, LONGEST);
            for (int second = 1; second <= end && seated < many; second++) {
                goOn(second);
                if (came < many && aisle[0] == NONE) {
                    aisle[0] = coming[came];
                    came++;
                }
            }
        }

        private void begin(Line line) {
            many = 0;
            seated = 0;
            below = 0;
            seconds = 0;
            for (int cell = 0; cell < MOST_ROWS; cell++) {
                aisle[cell] = NONE;
                left[cell] = room;
            }
            for (int i = 0; i < line.size; i++) {
                int person = line.who[i];
                busy[person] = 0;
                sat[person] = 0;
                waited[person] = 0;
                for (int bag = 0; bag < MOST_BAGS; bag++) {
                    bins[person][bag] = NONE;
                }
                if (row[person] < rows) {
                    coming[many] = person;
                    many++;
                }
            }
        }

        private void goOn(int second) {
            for (int cell = rows - 1; cell >= 0; cell--) {
                int person = aisle[cell];
                if (person == NONE) {
                    continue;
                }
                if (busy[person] > 0) {
                    busy[person]--;
                    sitIfReady(person, cell, second);
                } else if (row[person] == cell) {
                    busy[person] = timeToSit(person);
                    sitIfReady(person, cell, second);
                } else if (cell + 1 < rows && aisle[cell + 1] == NONE) {
                    aisle[cell + 1] = person;
                    aisle[cell] = NONE;
                } else {
                    waited[person]++;
                }
            }
        }

        private void sitIfReady(int person, int cell, int second) {
            if (busy[person] == 0) {
                aisle[cell] = NONE;
                sat[person] = second;
                seated++;
                seconds = second;
            }
        }

        private int timeToSit(int person) {
            int time = GETS_UP * inTheWayOf(person);
            for (int bag = 0; bag < bags[person]; bag++) {
                int bin = nearestBin(row[person]);
                bins[person][bag] = bin;
                if (bin == NONE) {
                    below++;
                    time += BELOW;
                } else {
                    left[bin]--;
                    time += IN_BIN + A_ROW_AWAY * Math.abs(bin - row[person]);
                }
            }
            return time;
        }

        private int inTheWayOf(int person) {
            int found = 0;
            for (int i = 0; i < many; i++) {
                int other = coming[i];
                if (sat[other] > 0 && row[other] == row[person]
                        && people.side[other] == people.side[person]
                        && people.depth[other] < people.depth[person]) {
                    found++;
                }
            }
            return found;
        }

        private int nearestBin(int from) {
            for (int away = 0; away < rows; away++) {
                if (from - away >= 0 && left[from - away] > 0) {
                    return from - away;
                }
                if (from + away < rows && left[from + away] > 0) {
                    return from + away;
                }
            }
            return NONE;
        }

        /** What board() tells. */
        int tell(int what) {
            if (what == 0) {
                return seconds;
            }
            if (what == 1) {
                return below;
            }
            int all = 0;
            for (int i = 0; i < many; i++) {
                all += waited[coming[i]];
            }
            return all;
        }

        /** What sits() tells. */
        int tellOf(int person, int what) {
            if (what == 0) {
                return sat[person];
            }
            return what == 1 ? waited[person] : bins[person][what - 2];
        }
    }

    /** OUT: how PEOPLE leave by a MANNER. */
    private static final class Leaving {
        private static final int BY_DEPTH = 1, BY_ROW = 2;

        private final People people;
        private final int[] aisle = new int[MOST_ROWS];
        private final int[] busy = new int[MOST_PEOPLE];
        private final boolean[] isUp = new boolean[MOST_PEOPLE];
        final int[] wentOut = new int[MOST_PEOPLE];
        private int rows;
        private int manner;
        private int gone;
        int seconds;

        Leaving(People ofCabin) {
            people = ofCabin;
        }

        void run(int ofRows, int byManner) {
            rows = Math.min(ofRows, MOST_ROWS);
            manner = byManner;
            gone = 0;
            seconds = 0;
            for (int cell = 0; cell < rows; cell++) {
                aisle[cell] = NONE;
            }
            for (int i = 0; i < people.size; i++) {
                isUp[i] = false;
                wentOut[i] = 0;
            }
            for (int second = 1; second <= LONGEST && gone < people.size; second++) {
                goOn(second);
                getUp();
            }
        }

        private void goOn(int second) {
            for (int cell = 0; cell < rows; cell++) {
                int person = aisle[cell];
                if (person == NONE) {
                    continue;
                }
                if (busy[person] > 0) {
                    busy[person]--;
                } else if (cell == 0) {
                    aisle[cell] = NONE;
                    wentOut[person] = second;
                    gone++;
                    seconds = second;
                } else if (aisle[cell - 1] == NONE) {
                    aisle[cell - 1] = person;
                    aisle[cell] = NONE;
                }
            }
        }

        private void getUp() {
            // Told once for all ROWS: who gets up in this second does not change it.
            int turn = leastTurn();
            for (int row = 0; row < rows; row++) {
                int person = aisle[row] == NONE ? nextOf(row, turn) : NONE;
                if (person != NONE) {
                    aisle[row] = person;
                    isUp[person] = true;
                    busy[person] = 2 * people.bags[person];
                }
            }
        }

        private int leastTurn() {
            int least = MOST_ROWS;
            for (int i = 0; i < people.size; i++) {
                if (!isUp[i]) {
                    least = Math.min(least, turnOf(i));
                }
            }
            return least;
        }

        /** Those of the least turn MAY. */
        private int turnOf(int person) {
            if (manner == BY_DEPTH) {
                return people.depth[person];
            }
            return manner == BY_ROW ? people.row[person] : 0;
        }

        private int nextOf(int row, int turn) {
            int found = NONE;
            for (int i = 0; i < people.size; i++) {
                if (!isUp[i] && people.row[i] == row && turnOf(i) == turn
                        && (found == NONE || isNearer(i, found))) {
                    found = i;
                }
            }
            return found;
        }

        private boolean isNearer(int person, int other) {
            if (people.depth[person] != people.depth[other]) {
                return people.depth[person] < people.depth[other];
            }
            return people.side[person] < people.side[other];
        }
    }
}
