/** Promises 12 to 15 and 18 to 20: board, sits, stands, least, later, bound, doors; all worked out by hand. */
public final class BoardingTest {
    private static final int NONE = RowsIntoPlane.NONE, UNKNOWN = RowsIntoPlane.UNKNOWN;
    private static final int OUTSIDE = RowsIntoPlane.OUTSIDE, STATE = RowsIntoPlane.STATE;
    private static final int LEAST = Integer.MIN_VALUE, MOST = Integer.MAX_VALUE;
    private static final Due due = new Due();

    public static void main(String[] args) {
        nobody();
        eachBoardsAnew();
        oneWalks();
        oneGetsUpAgain();
        twoGetUpAgain();
        binsNearby();
        binsByTheTimeTheyBegin();
        below();
        cellsFreedAreTakenAtOnce();
        standsRefused();
        boardRefused();
        sitsRefused();
        least();
        later();
        bound();
        doors();
        doorsTurnedRound();
        doorsRefused();
        due.end("BoardingTest");
    }

    private static void boards(RowsIntoPlane x, int call, int seconds, int below, int waits) {
        due.is("seconds by " + call, x.board(call, 0), seconds);
        due.is("below by " + call, x.board(call, 1), below);
        due.is("waits by " + call, x.board(call, 2), waits);
    }

    private static void sits(RowsIntoPlane x, int person, int... want) {
        for (int what = 0; what < 5; what++) {
            int due0 = what < want.length ? want[what] : NONE;
            due.is("sits(0, " + person + ", " + what + ")", x.sits(0, person, what), due0);
        }
    }

    private static void nobody() {
        RowsIntoPlane x = new RowsIntoPlane();
        x.cabin(2, 1, 0);
        Due.call(x, "w");
        boards(x, 0, 0, 0, 0);
        due.is("nobody stands", x.stands(0, 1, 0), NONE);
        due.is("bound", x.bound(0, 0), 0);
        due.is("doors", x.doors(0), 0);
    }

    private static RowsIntoPlane twoBySide() {
        RowsIntoPlane x = new RowsIntoPlane();
        x.cabin(2, 2, 0);
        Due.call(x, "a");
        Due.seat(x, 0, 0, 1, 0);
        Due.seat(x, 0, 0, 0, 0);
        return x;
    }

    /** As the first call of its object that boards, and behind another that boarded otherwise. */
    private static void eachBoardsAnew() {
        due.is("sits first", twoBySide().sits(0, 0, 0), 6);
        due.is("later first", twoBySide().later(0, 1), 3);
        due.is("stands first", twoBySide().stands(0, 2, 0), 0);
        due.is("bound first", twoBySide().bound(0, 3), 6);
        due.is("doors first", twoBySide().doors(0), 6);
        due.is("least first", twoBySide().least(), 0);
        RowsIntoPlane x = twoBySide();
        due.is("later", x.later(0, 1), 3);
        due.is("sits behind later", x.sits(0, 0, 0), 6);
        due.is("doors", x.doors(0), 6);
        due.is("board behind doors", x.board(0, 0), 6);
        x.cabin(2, 2, 0);
        due.is("board of nobody", x.board(0, 0), 0);
    }

    private static void oneWalks() {
        RowsIntoPlane x = new RowsIntoPlane();
        x.cabin(3, 1, 0);
        Due.call(x, "w");
        Due.seat(x, 2, 0, 0, 0);
        boards(x, 0, 4, 0, 0);
        sits(x, 0, 4, 0);
        for (int second = 1; second <= 5; second++) {
            for (int cell = 0; cell < 3; cell++) {
                int want = second <= 3 && cell == second - 1 ? 0 : NONE;
                due.is("stands(0, " + second + ", " + cell + ")", x.stands(0, second, cell), want);
            }
        }
    }

    private static void oneGetsUpAgain() {
        RowsIntoPlane x = new RowsIntoPlane();
        x.cabin(2, 2, 0);
        Due.call(x, "a");
        Due.call(x, "w");
        Due.seat(x, 0, 0, 0, 0);
        Due.seat(x, 0, 0, 1, 0);
        // 0 sits in second 2; 1 comes then, begins in 3 and is busy for 3.
        boards(x, 0, 6, 0, 0);
        sits(x, 0, 2, 0);
        sits(x, 1, 6, 0);
        due.is("1 is in cell 0", x.stands(0, 2, 0), 1);
        due.is("1 is still there", x.stands(0, 5, 0), 1);
        due.is("1 sits", x.stands(0, 6, 0), NONE);
        boards(x, 1, 3, 0, 0);
    }

    private static void twoGetUpAgain() {
        RowsIntoPlane x = new RowsIntoPlane();
        x.cabin(2, 3, 6);
        Due.call(x, "a");
        Due.seat(x, 0, 1, 0, 0);
        Due.seat(x, 0, 1, 1, 0);
        Due.seat(x, 0, 1, 2, 1);
        Due.seat(x, 0, 0, 2, 0);
        // 0 sits in 2; 1 begins in 3, sits in 6; 2 begins in 7, busy for 6 and 4, sits in 17;
        // 3 has nobody on its side: it begins and sits in 18.
        boards(x, 0, 18, 0, 0);
        sits(x, 2, 17, 0, 0);
        sits(x, 3, 18, 0);
    }

    private static void binsNearby() {
        RowsIntoPlane x = new RowsIntoPlane();
        x.cabin(3, 1, 1);
        Due.call(x, "o");
        Due.seat(x, 1, 0, 0, 3);
        Due.seat(x, 1, 1, 0, 1);
        // 0 begins in 3: 4 here, 6 to the lesser of two rows as near, 6 to the other; it sits in 19.
        // 1 came in 2, waits from 3 to 18, goes on in 19, begins in 20, its bag goes below.
        boards(x, 0, 25, 1, 16);
        sits(x, 0, 19, 0, 1, 0, 2);
        sits(x, 1, 25, 16, NONE);
        due.is("1 waits in cell 0", x.stands(0, 18, 0), 1);
        due.is("0 is busy in cell 1", x.stands(0, 18, 1), 0);
        due.is("1 goes on at once", x.stands(0, 19, 1), 1);
        due.is("cell 0 is empty then", x.stands(0, 19, 0), NONE);
    }

    private static void binsByTheTimeTheyBegin() {
        RowsIntoPlane x = new RowsIntoPlane();
        x.cabin(3, 1, 1);
        Due.call(x, "b1");
        Due.seat(x, 2, 0, 0, 1);
        Due.seat(x, 1, 0, 0, 2);
        // Both begin in second 4 (0 comes in 1 and walks two cells, 1 comes in 2 and walks one):
        // the one in the last cell first. Then 1 has bin 1, and bin 0, for bin 2 is full.
        boards(x, 0, 14, 0, 0);
        sits(x, 0, 8, 0, 2);
        sits(x, 1, 14, 0, 1, 0);
        RowsIntoPlane y = new RowsIntoPlane();
        y.cabin(3, 1, 1);
        Due.call(y, "f1");
        Due.seat(y, 0, 0, 0, 3);
        Due.seat(y, 2, 0, 0, 1);
        // 0 begins in 2 and takes all bins: 4, 6 and 8.
        boards(y, 0, 28, 1, 0);
        sits(y, 0, 20, 0, 0, 1, 2);
        sits(y, 1, 28, 0, NONE);
    }

    private static void below() {
        RowsIntoPlane x = new RowsIntoPlane();
        x.cabin(2, 1, 0);
        Due.call(x, "f1");
        Due.seat(x, 0, 0, 0, 3);
        Due.seat(x, 0, 1, 0, 2);
        // 0 begins in 2, sits in 17; 1 comes in 17, begins in 18.
        boards(x, 0, 28, 5, 0);
        sits(x, 0, 17, 0);
    }

    private static void cellsFreedAreTakenAtOnce() {
        RowsIntoPlane x = new RowsIntoPlane();
        x.cabin(4, 1, 6);
        Due.call(x, "b1");
        Due.seat(x, 3, 0, 0, 0);
        Due.seat(x, 2, 0, 0, 1);
        Due.seat(x, 1, 0, 0, 0);
        Due.seat(x, 3, 1, 0, 0);
        // The order: 0, 3, 1, 2. 0 sits in 5; 3 comes in 2, sits in 6; 1 comes in 3, begins in 6, sits in 10;
        // 2 comes in 4, is in cell 1 in 5, sits in 6.
        boards(x, 0, 10, 0, 0);
        sits(x, 0, 5, 0);
        sits(x, 3, 6, 0);
        sits(x, 1, 10, 0, 2);
        sits(x, 2, 6, 0);
        int[] fourth = {2, 1, 3, 0};
        for (int cell = 0; cell < 4; cell++) {
            due.is("in second 4 in cell " + cell, x.stands(0, 4, cell), fourth[cell]);
        }
    }

    private static void standsRefused() {
        RowsIntoPlane x = new RowsIntoPlane();
        Due.call(x, "w");
        due.is("no cabin", x.stands(0, 1, 0), STATE);
        due.is("no cabin ahead of second", x.stands(0, 0, 0), STATE);
        due.is("call ahead of no cabin", x.stands(1, 1, 0), UNKNOWN);
        x.cabin(3, 1, 0);
        Due.seat(x, 0, 0, 0, 0);
        due.is("second 999", x.stands(0, 999, 2), NONE);
        for (int v : new int[] {-1, 1000, LEAST, MOST}) {
            due.is("call " + v, x.stands(v, 1, 0), UNKNOWN);
            due.is("second " + v, x.stands(0, v, 0), OUTSIDE);
            due.is("cell " + v, x.stands(0, 1, v), OUTSIDE);
            due.is("all of them " + v, x.stands(v, v, v), UNKNOWN);
        }
        due.is("second 0", x.stands(0, 0, 0), OUTSIDE);
        due.is("cell 3", x.stands(0, 1, 3), OUTSIDE);
    }

    private static void boardRefused() {
        RowsIntoPlane x = new RowsIntoPlane();
        Due.call(x, "w");
        due.is("no cabin", x.board(0, 0), STATE);
        due.is("no cabin ahead of what", x.board(0, 3), STATE);
        due.is("call ahead of no cabin", x.board(1, 3), UNKNOWN);
        x.cabin(3, 1, 0);
        for (int v : new int[] {-1, 3, LEAST, MOST}) {
            due.is("call " + v, x.board(v, 0), UNKNOWN);
            due.is("what " + v, x.board(0, v), OUTSIDE);
            due.is("both " + v, x.board(v, v), UNKNOWN);
        }
    }

    private static void sitsRefused() {
        RowsIntoPlane x = new RowsIntoPlane();
        Due.call(x, "w");
        due.is("no cabin, so no person", x.sits(0, 0, 0), UNKNOWN);
        x.cabin(3, 1, 0);
        due.is("no person", x.sits(0, 0, 9), UNKNOWN);
        Due.seat(x, 0, 0, 0, 0);
        for (int v : new int[] {-1, 5, LEAST, MOST}) {
            due.is("call " + v, x.sits(v, 0, 0), UNKNOWN);
            due.is("person " + v, x.sits(0, v, 0), UNKNOWN);
            due.is("what " + v, x.sits(0, 0, v), OUTSIDE);
            due.is("person ahead of what " + v, x.sits(0, v, v), UNKNOWN);
        }
    }

    private static void least() {
        RowsIntoPlane x = new RowsIntoPlane();
        due.is("no cabin", x.least(), STATE);
        x.cabin(2, 2, 0);
        due.is("no calls", x.least(), NONE);
        Due.call(x, "a");
        due.is("nobody", x.least(), 0);
        Due.call(x, "w");
        Due.call(x, "w,a");
        due.is("of like ones the least", x.least(), 0);
        Due.seat(x, 0, 0, 0, 0);
        Due.seat(x, 0, 0, 1, 0);
        due.is("windows ahead", x.least(), 1);
        RowsIntoPlane y = new RowsIntoPlane();
        Due.call(y, "w");
        due.is("no cabin, with a call", y.least(), STATE);
    }

    private static void later() {
        RowsIntoPlane x = new RowsIntoPlane();
        x.cabin(2, 2, 0);
        Due.call(x, "w");
        Due.seat(x, 0, 0, 1, 0);
        Due.seat(x, 0, 0, 0, 0);
        x.person(1, NONE, 1, 0, 0, 0, 0);
        // The order: 0, 1, 2: 0 sits in 2, 1 in 3, 2 comes in 3 and sits in 5.
        due.is("board", x.board(0, 0), 5);
        due.is("2 is last", x.later(0, 2), 5);
        // 0, 2, 1: 2 comes in 2, goes on in 3 when 1 comes; 1 sits in 4, 2 as well.
        due.is("1 behind a late one", x.later(0, 1), 4);
        // 1, 2, 0: 1 sits in 2, 2 comes, goes on in 3 when 0 comes; 0 is busy from 4 to 7.
        due.is("0 behind all", x.later(0, 0), 7);
        due.is("the order is as it was", x.order(0, 0), 0);
        for (int v : new int[] {-1, 3, LEAST, MOST}) {
            due.is("call " + v, x.later(v, 0), UNKNOWN);
            due.is("person " + v, x.later(0, v), UNKNOWN);
        }
        RowsIntoPlane y = new RowsIntoPlane();
        Due.call(y, "w");
        due.is("no cabin, so no person", y.later(0, 0), UNKNOWN);
        RowsIntoPlane z = new RowsIntoPlane();
        z.cabin(2, 2, 0);
        Due.call(z, "w");
        Due.seat(z, 0, 0, 0, 0);
        z.person(3, 0, 0, 0, 1, 0, 0);
        // Whom one is with comes behind it, if that one alone is later.
        due.is("0, then 1", z.board(0, 0), 6);
        due.is("1, then 0", z.later(0, 0), 3);
        due.is("1 is last as it is", z.later(0, 1), 6);
    }

    private static void bound() {
        RowsIntoPlane x = new RowsIntoPlane();
        x.cabin(2, 2, 6);
        Due.call(x, "g");
        Due.seat(x, 0, 0, 0, 3);
        Due.seat(x, 0, 0, 1, 2);
        // 1 begins in 2, sits in 10; 0 begins in 11, busy for 12.
        due.is("3 bags", x.bound(0, 3), 23);
        due.is("as it is", x.board(0, 0), 23);
        // By these both have as many: 0 is ahead, 1 gets it up: 2 + 8, then 11 + 8 + 3.
        due.is("2 bags", x.bound(0, 2), 22);
        due.is("1 bag", x.bound(0, 1), 2 + 4 + 1 + 4 + 3);
        due.is("no bags", x.bound(0, 0), 6);
        due.is("bags are as they were", x.count(8), 5);
        for (int v : new int[] {-1, 4, LEAST, MOST}) {
            due.is("call " + v, x.bound(v, 0), UNKNOWN);
            due.is("bags " + v, x.bound(0, v), OUTSIDE);
            due.is("both " + v, x.bound(v, v), UNKNOWN);
        }
        RowsIntoPlane y = new RowsIntoPlane();
        Due.call(y, "w");
        due.is("no cabin", y.bound(0, 9), STATE);
        due.is("call ahead of no cabin", y.bound(1, 9), UNKNOWN);
    }

    private static void doors() {
        RowsIntoPlane x = new RowsIntoPlane();
        x.cabin(5, 1, 0);
        Due.call(x, "f1");
        Due.seat(x, 2, 0, 0, 0);
        // Three of five rows are ahead.
        due.is("row 2 from ahead", x.doors(0), 4);
        x.cabin(5, 1, 0);
        Due.seat(x, 3, 0, 0, 0);
        due.is("row 3 from behind", x.doors(0), 3);
        Due.seat(x, 4, 0, 0, 0);
        // 0 comes first; 1 comes in 2 when 0 has gone on, and sits in 3.
        due.is("rows 3 and 4 from behind", x.doors(0), 3);
        Due.seat(x, 0, 0, 0, 1);
        due.is("the later of both", x.doors(0), 7);
        x.cabin(2, 1, 6);
        Due.seat(x, 0, 0, 0, 1);
        Due.seat(x, 1, 0, 0, 2);
        due.is("a row each", x.doors(0), 10);
        x.cabin(5, 1, 0);
        Due.seat(x, 0, 0, 0, 0);
        Due.seat(x, 2, 0, 0, 0);
        // The middle row is ahead: 1 comes behind 0.
        due.is("rows 0 and 2 by one door", x.doors(0), 5);
        x.cabin(3, 1, 1);
        Due.seat(x, 2, 0, 0, 2);
        due.is("the row behind has one bin", x.doors(0), 2 + 4 + 5);
    }

    private static void doorsTurnedRound() {
        RowsIntoPlane x = new RowsIntoPlane();
        x.cabin(6, 2, 1);
        Due.call(x, "a");
        Due.seat(x, 4, 0, 0, 2);
        Due.seat(x, 5, 0, 0, 1);
        // From behind: 0 is in row 1 of three, 1 in row 0. 0 comes in 1, begins in 3: bin 1 takes 4,
        // of bins 0 and 2 the lesser from that door takes 6; it sits in 13.
        // 1 comes in 2, begins in 3, when bin 0 is full: bin 2 is two rows away: 8; it sits in 11.
        due.is("bins from behind", x.doors(0), 13);
        RowsIntoPlane y = new RowsIntoPlane();
        y.cabin(4, 1, 0);
        Due.call(y, "w");
        Due.seat(y, 0, 0, 0, 3);
        Due.seat(y, 2, 0, 0, 0);
        Due.seat(y, 3, 0, 0, 0);
        // Bins of the other part are no use, nor are those who sit there in the way.
        due.is("no room at all", y.doors(0), 17);
        y.cabin(4, 1, 1);
        Due.seat(y, 1, 0, 0, 3);
        due.is("two bins, and below", y.doors(0), 3 + 4 + 6 + 5);
        due.is("three bins by one door", y.board(0, 0), 3 + 4 + 6 + 6);
    }

    private static void doorsRefused() {
        RowsIntoPlane x = new RowsIntoPlane();
        Due.call(x, "w");
        due.is("no cabin", x.doors(0), STATE);
        due.is("call ahead of no cabin", x.doors(1), UNKNOWN);
        x.cabin(2, 1, 0);
        for (int v : new int[] {-1, 1, LEAST, MOST}) {
            due.is("doors(" + v + ")", x.doors(v), UNKNOWN);
        }
    }
}
