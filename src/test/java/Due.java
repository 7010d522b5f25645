/** Counts the answers that are not the ones that are due. */
final class Due {
    /** Set by BrokenPromisesTest: a wrong answer then ends the test at once, but not the whole program. */
    static boolean isTried;

    private int wrong;
    private int asked;

    void is(String call, long got, long want) {
        asked++;
        if (got != want) {
            if (isTried) {
                throw new IllegalStateException(call);
            }
            wrong++;
            System.out.println(call + " answered " + got + ", due is " + want);
        }
    }

    /** Ends the test: with exit code 1, if an answer was wrong. */
    void end(String name) {
        System.out.println(name + ": " + asked + " answers, " + wrong + " of them wrong");
        if (wrong != 0 || asked == 0) {
            System.exit(1);
        }
    }

    /** A text as the bytes that letters() takes; eight letters at most. */
    static long bytes(String text) {
        long w = 0;
        for (int i = text.length() - 1; i >= 0; i--) {
            w = w << 8 | text.charAt(i);
        }
        return w;
    }

    static void write(RowsIntoPlane x, String text) {
        for (int i = 0; i < text.length(); i += 8) {
            x.letters(bytes(text.substring(i, Math.min(text.length(), i + 8))));
        }
    }

    /** Writes a text on the empty page and reads it as a call. */
    static int call(RowsIntoPlane x, String text) {
        x.blank();
        write(x, text);
        return x.call();
    }

    /** A person of kind 0 with a worth of 100. */
    static int seat(RowsIntoPlane x, int row, int side, int depth, int bags) {
        return x.person(0, RowsIntoPlane.NONE, row, side, depth, bags, 100);
    }
}
