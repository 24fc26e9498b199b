/** Promises 39 to 45: shelves. */
public final class ShelvesPromisesTest {
    private static final Due due = new Due();
    private static final long NO_SHELF = -1000000000001L;
    private static final long NO_PLACE = -1000000000002L;

    public static void main(String[] args) {
        keeping();
        rows();
        putting();
        copying();
        costs();
        tosses();
        due.end("ShelvesPromisesTest");
    }

    private static long element(RubberBandsHoldFamilies x, int d, int i) {
        try {
            return x.element(d, i);
        } catch (IllegalArgumentException e) {
            return NO_SHELF;
        } catch (IllegalStateException e) {
            return NO_PLACE;
        }
    }

    private static void keeping() {
        RubberBandsHoldFamilies x = new RubberBandsHoldFamilies();
        due.is(39, "a kind", x.keep(0, 1, 7, 9), 0);
        due.is(39, "a kind", x.cost(0), 10);
        due.is(39, "kind 8", x.keep(0, 1, 8, 0), -1);
        due.is(39, "kind -1", x.keep(0, 1, -1, 0), -1);
        due.is(39, "figure 10", x.keep(0, 1, 0, 10), -1);
        due.is(39, "figure -1", x.keep(0, 1, 0, -1), -1);
        due.is(39, "what 2", x.keep(0, 2, 0, 0), -1);
        due.is(39, "what -1", x.keep(0, -1, 0, 0), -1);
        due.is(39, "no such shelf", x.keep(8, 1, 0, 0), -1);
        due.is(39, "no such shelf", x.keep(-1, 0, 0, 0), -1);
        due.is(39, "as it was", x.cost(0), 10);
        due.is(39, "nothing, the others do not matter", x.keep(0, 0, 99, -99), 0);
        due.is(39, "nothing held", x.cost(0), -11);
        x.row(0, 0, 3);
        due.is(39, "in place of a row", x.keep(0, 1, 0, 0), 0);
        due.is(39, "no row any more", x.put(0, 0, 0), -12);
        due.is(39, "the other shelves", x.cost(7), -11);
    }

    private static void rows() {
        RubberBandsHoldFamilies x = new RubberBandsHoldFamilies();
        due.is(40, "empty", x.row(0, 0, 0), 0);
        due.is(40, "no place in it", element(x, 0, 0), NO_PLACE);
        due.is(40, "a hundred", x.row(0, 2, 100), 0);
        due.is(40, "0 at first", element(x, 0, 99), 0);
        due.is(40, "a hundred only", element(x, 0, 100), NO_PLACE);
        x.put(0, 99, 5);
        due.is(40, "101", x.row(0, 2, 101), -1);
        due.is(40, "-1", x.row(0, 2, -1), -14);
        due.is(40, "sort 3", x.row(0, 3, 1), -1);
        due.is(40, "sort -1", x.row(0, -1, 1), -1);
        due.is(40, "no such shelf", x.row(8, 0, 1), -1);
        due.is(40, "-1 ahead of -14", x.row(8, 0, -1), -1);
        due.is(40, "-1 ahead of -14", x.row(0, 3, -1), -1);
        due.is(40, "as it was", element(x, 0, 99), 5);
        due.is(40, "a new one", x.row(0, 2, 100), 0);
        due.is(40, "0 at first", element(x, 0, 99), 0);
    }

    private static void putting() {
        RubberBandsHoldFamilies x = new RubberBandsHoldFamilies();
        due.is(41, "no such shelf", x.put(8, 0, 0), -1);
        due.is(41, "no such shelf", x.put(-1, 0, 0), -1);
        due.is(41, "nothing held", x.put(0, 0, 0), -11);
        x.keep(0, 1, 0, 0);
        due.is(41, "a kind", x.put(0, 0, 0), -12);
        for (int sort = 0; sort <= 2; sort++) {
            x.row(sort, sort, 3);
            due.is(41, "no such place", x.put(sort, 3, 1), -13);
            due.is(41, "no such place", x.put(sort, -1, 1), -13);
            due.is(41, "put", x.put(sort, 2, 0x12345678), 0);
            due.is(41, "put", x.put(sort, 1, 0x89ABCDEF), 0);
        }
        due.is(42, "lowest bits of a byte", element(x, 0, 2), 0x78);
        due.is(42, "lowest bits of a byte", element(x, 0, 1), (byte) 0xEF);
        due.is(42, "lowest bits of a short", element(x, 1, 2), 0x5678);
        due.is(42, "lowest bits of a short", element(x, 1, 1), (short) 0xCDEF);
        due.is(42, "an int", element(x, 2, 2), 0x12345678);
        due.is(42, "an int", element(x, 2, 1), 0x89ABCDEF);
        due.is(42, "untouched", element(x, 2, 0), 0);
        due.is(42, "no such place", element(x, 2, 3), NO_PLACE);
        due.is(42, "no such place", element(x, 2, -1), NO_PLACE);
        due.is(42, "nothing held", element(x, 3, 0), NO_PLACE);
        x.keep(3, 1, 0, 0);
        due.is(42, "no row", element(x, 3, 0), NO_PLACE);
        due.is(42, "no such shelf", element(x, 8, 0), NO_SHELF);
        due.is(42, "no such shelf", element(x, -1, 0), NO_SHELF);
    }

    private static void copying() {
        RubberBandsHoldFamilies x = new RubberBandsHoldFamilies();
        Due.fill(x, 0, 1, 1, 2, 3, 4, 5);
        x.row(1, 1, 3);
        due.is(43, "three", x.copy(0, 2, 1, 0, 3), 3);
        isRow(x, 1, 3, 4, 5);
        due.is(43, "one", x.copy(0, 0, 1, 2, 1), 1);
        isRow(x, 1, 3, 4, 1);
        due.is(43, "none", x.copy(0, 5, 1, 3, 0), 0);
        due.is(43, "beyond the one", x.copy(0, 3, 1, 0, 3), -13);
        due.is(43, "beyond the other", x.copy(0, 0, 1, 1, 3), -13);
        due.is(43, "below 0", x.copy(0, 0, 1, 0, -1), -13);
        due.is(43, "below 0", x.copy(0, -1, 1, 0, 1), -13);
        due.is(43, "below 0", x.copy(0, 0, 1, -1, 1), -13);
        due.is(43, "none from beyond", x.copy(0, 6, 1, 0, 0), -13);
        due.is(43, "none to beyond", x.copy(0, 0, 1, 4, 0), -13);
        due.is(43, "far beyond", x.copy(0, Integer.MAX_VALUE, 1, 0, 1), -13);
        due.is(43, "far too many", x.copy(0, 1, 1, 1, Integer.MAX_VALUE), -13);
        isRow(x, 1, 3, 4, 1);
        due.is(43, "onto itself, to the right", x.copy(0, 0, 0, 1, 4), 4);
        isRow(x, 0, 1, 1, 2, 3, 4);
        due.is(43, "onto itself, to the left", x.copy(0, 2, 0, 0, 3), 3);
        isRow(x, 0, 2, 3, 4, 3, 4);
        x.row(2, 2, 5);
        x.keep(3, 1, 0, 0);
        due.is(43, "of two sorts", x.copy(0, 0, 2, 0, 1), -12);
        due.is(43, "to a kind", x.copy(0, 0, 3, 0, 1), -12);
        due.is(43, "from a kind", x.copy(3, 0, 0, 0, 1), -12);
        x.row(5, 0, 3);
        due.is(43, "of bytes to a kind", x.copy(5, 0, 3, 0, 1), -12);
        due.is(43, "of a kind to bytes", x.copy(3, 0, 5, 0, 1), -12);
        due.is(43, "-12 ahead of -13", x.copy(0, 0, 2, 0, -1), -12);
        due.is(43, "to nothing", x.copy(0, 0, 4, 0, 1), -11);
        due.is(43, "from nothing", x.copy(4, 0, 0, 0, 1), -11);
        due.is(43, "-11 ahead of -12", x.copy(3, 0, 4, 0, 1), -11);
        due.is(43, "no such shelf", x.copy(0, 0, 8, 0, 1), -1);
        due.is(43, "no such shelf", x.copy(-1, 0, 0, 0, 1), -1);
        due.is(43, "-1 ahead of -11", x.copy(4, 0, 8, 0, 1), -1);
    }

    private static void isRow(RubberBandsHoldFamilies x, int d, int... want) {
        for (int i = 0; i < want.length; i++) {
            due.is(43, "element(" + d + ", " + i + ")", element(x, d, i), want[i]);
        }
        due.is(43, "no more", element(x, d, want.length), NO_PLACE);
    }

    private static void costs() {
        RubberBandsHoldFamilies x = new RubberBandsHoldFamilies();
        int[] of0 = {2, 2, 4, 1, 5, 0, 7, 1};
        int[] of4 = {2, 6, 12, 1, 5, 4, 7, 5};
        for (int kind = 0; kind < 8; kind++) {
            x.keep(0, 1, kind, 0);
            due.is(44, "kind " + kind, x.cost(0), of0[kind]);
            x.keep(0, 1, kind, 4);
            due.is(44, "kind " + kind, x.cost(0), of4[kind]);
        }
        due.is(44, "nothing held", x.cost(1), -11);
        x.row(1, 0, 0);
        due.is(44, "a row", x.cost(1), -12);
        due.is(44, "no such shelf", x.cost(8), -1);
        due.is(44, "no such shelf", x.cost(-1), -1);
    }

    private static void tosses() {
        RubberBandsHoldFamilies x = new RubberBandsHoldFamilies();
        int[] of4 = {4, 104, 212, -15, 4, 104, 4, -15};
        for (int kind = 0; kind < 8; kind++) {
            x.keep(0, 1, kind, 0);
            due.is(45, "kind " + kind + " of 0", x.toss(0), -15);
            x.keep(0, 1, kind, 4);
            due.is(45, "kind " + kind + " of 4", x.toss(0), of4[kind]);
            due.is(45, "again", x.toss(0), of4[kind]);
        }
        due.is(45, "nothing held", x.toss(1), -11);
        x.row(1, 0, 0);
        due.is(45, "a row", x.toss(1), -12);
        due.is(45, "no such shelf", x.toss(8), -1);
        due.is(45, "no such shelf", x.toss(-1), -1);
    }
}
