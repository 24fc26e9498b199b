/** Counts the answers that are not the ones that are due; what the project's tests share. */
final class Due {
    private int looked;
    private int wrong;

    void is(int promise, String call, long got, long want) {
        looked++;
        if (got != want) {
            wrong++;
            System.out.println("promise " + promise + ": " + call + " answered " + got + ", due is " + want);
        }
    }

    void holds(String what, boolean good) {
        looked++;
        if (!good) {
            wrong++;
            System.out.println("not so: " + what);
        }
    }

    /** Ends the test: with exit code 1 if anything was wrong, or if nothing was looked at. */
    void end(String test) {
        System.out.println(test + ": " + looked + " looked at, " + wrong + " wrong");
        if (wrong > 0 || looked == 0) {
            System.exit(1);
        }
    }

    /** Writes a text into a shelf as a row of bytes. */
    static void write(RubberBandsHoldFamilies x, int d, String text) {
        x.row(d, 0, text.length());
        for (int i = 0; i < text.length(); i++) {
            x.put(d, i, text.charAt(i));
        }
    }

    /** Puts numbers into a shelf as a row of a sort. */
    static void fill(RubberBandsHoldFamilies x, int d, int sort, int... numbers) {
        x.row(d, sort, numbers.length);
        for (int i = 0; i < numbers.length; i++) {
            x.put(d, i, numbers[i]);
        }
    }

    /** A new object with the town of a text, which is taken from shelf 7. */
    static RubberBandsHoldFamilies town(String text) {
        RubberBandsHoldFamilies x = new RubberBandsHoldFamilies();
        write(x, 7, text);
        int answer = x.town(7);
        if (answer < 0) {
            System.out.println("the test's own town has a fault: " + text + " " + answer);
            System.exit(1);
        }
        return x;
    }

    /** What town answers to a text on a new object. */
    static int answerTo(String text) {
        RubberBandsHoldFamilies x = new RubberBandsHoldFamilies();
        write(x, 0, text);
        return x.town(0);
    }
}
