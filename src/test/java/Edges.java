/**
 * Edges one by one. Each begins with the sentence of the document that it stands for and with a new
 * object; then come calls, each with the answer that is due. A question, and a call that is refused,
 * is kept from a twin of the object, and in the end both have to look alike: nothing was changed by it.
 */
final class Edges {
    static final int LEAST = Integer.MIN_VALUE;
    static final int MOST = Integer.MAX_VALUE;
    private static final int MOST_CALLS = 512;

    private final StringBuilder begun = new StringBuilder();
    private RubberBandsHoldFamilies x;
    private RubberBandsHoldFamilies twin;
    private int calls;
    private boolean isApart;
    private int sentences;
    private int looked;
    private int lookedHere;
    private int wrong;

    /** A sentence of the document's terms. */
    void says(String sentence) {
        begin(sentence);
    }

    /** The sentence of a promise, or a part of it. */
    void says(int promise, String sentence) {
        begin("promise " + promise + ": " + sentence);
    }

    private void begin(String sentence) {
        close();
        begun.setLength(0);
        begun.append(sentence);
        sentences++;
        lookedHere = 0;
    }

    private void close() {
        anew();
        if (sentences > 0 && lookedHere == 0) {
            fail("nothing is looked at");
        }
    }

    /** Goes on with a new object. */
    void anew() {
        if (isApart) {
            compareWithTwin();
        }
        if (calls > MOST_CALLS) {
            fail("more calls than are promised");
        }
        x = new RubberBandsHoldFamilies();
        twin = new RubberBandsHoldFamilies();
        calls = 0;
        isApart = false;
    }

    /** Goes on with a new object that has the town of a text. */
    void town(String text) {
        anew();
        more(text);
    }

    /** Has one more text come, which has no fault, from shelf 7; shelf 7 holds nothing then. */
    void more(String text) {
        text(7, text);
        due("town 7", text.length() - text.replace(";", "").length());
        due("keep 7 0 0 0", 0);
    }

    void text(int d, String text) {
        due("row " + d + " 0 " + text.length(), 0);
        for (int i = 0; i < text.length(); i++) {
            due("put " + d + " " + i + " " + (int) text.charAt(i), 0);
        }
    }

    void row(int d, int sort, int... numbers) {
        due("row " + d + " " + sort + " " + numbers.length, 0);
        for (int i = 0; i < numbers.length; i++) {
            due("put " + d + " " + i + " " + numbers[i], 0);
        }
    }

    /** A call that may change something, and the answer that is due. */
    void due(String call, long want) {
        compare(call, ask(x, call), want);
        ask(twin, call);
        calls++;
    }

    /** A question, and the answer that is due: nothing is changed by it. */
    void asks(String call, long want) {
        compare(call, ask(x, call), want);
        isApart = true;
        calls++;
    }

    /** A call that is refused with that answer: nothing is changed by it. */
    void refused(String call, long want) {
        asks(call, want);
    }

    /** Calls that are refused with one answer: each of the values stands once where a # is told. */
    void refusedOf(String call, long want, int... values) {
        for (int value : values) {
            refused(call.replace("#", "" + value), want);
        }
    }

    private static long ask(RubberBandsHoldFamilies object, String call) {
        return Calls.ask(object, call);
    }

    private void compare(String call, long got, long want) {
        looked++;
        lookedHere++;
        if (got != want) {
            fail("(" + call + ") answered " + got + ", due is " + want);
        }
    }

    private void fail(String what) {
        wrong++;
        System.out.println(begun + " -- " + what);
    }

    private void compareWithTwin() {
        for (int what = 0; what <= 6; what++) {
            alike("count " + what);
        }
        for (int p = 0; p < twin.count(0); p++) {
            alike("person " + p + " 0");
            alike("person " + p + " 1");
        }
        for (int b = 0; b < twin.count(1); b++) {
            for (int what = 0; what <= 4; what++) {
                alike("band " + b + " " + what);
            }
        }
        for (int d = 0; d < 8; d++) {
            alike("cost " + d);
            alike("toss " + d);
            alike("put " + d + " 0 70000");
            for (int i = 0; i < 4; i++) {
                alike("element " + d + " " + i);
            }
        }
        alike("restore");
        alike("count 2");
        alike("count 4");
    }

    private void alike(String call) {
        compare("behind what changes nothing: " + call, ask(x, call), ask(twin, call));
        calls++;
    }

    /** Ends the test: with exit code 1 if anything was wrong. */
    void end(String test) {
        close();
        System.out.println(test + ": " + sentences + " sentences, " + looked + " looked at, " + wrong + " wrong");
        if (wrong > 0 || sentences == 0) {
            System.exit(1);
        }
    }
}
