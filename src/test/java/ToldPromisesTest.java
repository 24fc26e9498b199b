/** Promises 33 to 38: told goings, told years; the image, what is told. */
public final class ToldPromisesTest {
    private static final Due due = new Due();

    public static void main(String[] args) {
        forged();
        judged();
        generations();
        images();
        counts();
        due.end("ToldPromisesTest");
    }

    private static void forged() {
        // A band of figure 0 lets 0 and 1 be 10 apart.
        RubberBandsHoldFamilies x = Due.town("p10;p10;b0001;");
        forged(x, -4);
        forged(x, -4, 0, 0, 1, 10);
        forged(x, 0, 0, 30, 1, 30);
        forged(x, 2, 0, 20, 1, 30, 0, 19, 0, 18);
        forged(x, -4, 0, 5, 1, 15, 0, 20, 1, 30);
        forged(x, -13, 0);
        forged(x, -13, 0, 30, 0);
        forged(x, -13, 2, 0);
        forged(x, -13, 0, 31);
        forged(x, -13, -1, 0);
        forged(x, -13, 0, -1);
        forged(x, -13, 0, 30, 1, 31);
        due.is(33, "in mind only", x.count(4) + x.person(0, 0), 10);
        x.row(0, 2, 2);
        x.put(0, 1, 30);
        due.is(33, "of ints too", x.forged(0), 0);
        x.cuts(0);
        due.is(33, "snapped already", x.forged(0), -4);
        due.is(33, "no such shelf", x.forged(8), -1);
        due.is(33, "nothing held", x.forged(1), -11);
        x.keep(1, 1, 0, 0);
        due.is(33, "a kind", x.forged(1), -12);
    }

    private static void forged(RubberBandsHoldFamilies x, int first, int... told) {
        Due.fill(x, 0, 0, told);
        due.is(33, "forged by " + java.util.Arrays.toString(told), x.forged(0), first);
    }

    private static void judged() {
        // One cut; the red one is torn in year 15.
        RubberBandsHoldFamilies x = Due.town("p10;p11;b3001;b9001;x0;".replace("b9001", "b3001"));
        judged(x, -4, 0);
        judged(x, -4, 0, 1, 1, 1);
        judged(x, 0, 0, 0, 1, 1);
        judged(x, 2, 0, 1, 1, 2);
        judged(x, -4, 0, 1, -128, 1);
        judged(x, 1, 1, 1, -128, 1);
        judged(x, -4, 1, -32768, -32768, 1);
        judged(x, -4, 2, 1, Integer.MIN_VALUE);
        int[] years = new int[100];
        for (int n = 0; n < 100; n++) {
            years[n] = n < 15 ? 1 : 2;
        }
        judged(x, -4, 0, years);
        years[14] = 2;
        judged(x, 14, 2, years);
        years[14] = -128;
        years[99] = 1;
        judged(x, 99, 0, years);
        due.is(34, "in mind only", x.count(2), 0);
        due.is(34, "no such shelf", x.judge(-1), -1);
        due.is(34, "nothing held", x.judge(1), -11);
        x.keep(1, 1, 0, 0);
        due.is(34, "a kind", x.judge(1), -12);
    }

    private static void judged(RubberBandsHoldFamilies x, int first, int sort, int... told) {
        Due.fill(x, 0, sort, told);
        due.is(34, "judge by " + told.length + " of sort " + sort, x.judge(0), first);
    }

    private static void generations() {
        RubberBandsHoldFamilies x = new RubberBandsHoldFamilies();
        due.is(35, "nobody", x.generations(1, 1, 0), -3);
        due.is(35, "-1 ahead of -3", x.generations(0, 1, 0), -1);
        due.is(35, "21", x.generations(21, 1, 0), -1);
        due.is(35, "no such what", x.generations(1, 1, 2), -1);
        due.is(35, "no such what", x.generations(1, 1, -1), -1);
        x = Due.town("p10;p14;p20;p22;b0001;b4512;b1023;b6901;b7913;b2002;b0930;x3;");
        RubberBandsHoldFamilies alone = Due.town("p05;");
        due.is(35, "one alone", alone.generations(20, 9, 0) + alone.generations(20, 9, 1), 0);
        x.goes(3, 0);
        due.holds("somebody is stung already", x.count(5) > 0);
        for (int z : new int[] {0, 1, 7, -1, 123456789, Integer.MIN_VALUE, Integer.MAX_VALUE}) {
            compareGenerations(x, 1, z);
            compareGenerations(x, 20, z);
        }
    }

    /** Goes as the seed draws, from the image each time, and looks what that snaps and stings. */
    private static void compareGenerations(RubberBandsHoldFamilies x, int n, int seed) {
        int snapped = x.generations(n, seed, 0);
        int stung = x.generations(n, seed, 1);
        x.image();
        int z = seed;
        int snaps = 0;
        int stings = 0;
        for (int i = 0; i < n; i++) {
            int before = x.count(5);
            for (int k = 0; k < 10; k++) {
                z = z * 1103515245 + 12345;
                int p = (z & 0x7fffffff) / 65536 % 4;
                z = z * 1103515245 + 12345;
                snaps += x.goes(p, (z & 0x7fffffff) / 65536 % 31);
            }
            stings += x.count(5) - before;
            x.restore();
        }
        due.is(35, "snapped by " + n + " of seed " + seed, snapped, snaps);
        due.is(35, "stung by " + n + " of seed " + seed, stung, stings);
        due.holds("something is snapped by them", snaps > 0);
    }

    private static void images() {
        RubberBandsHoldFamilies x = new RubberBandsHoldFamilies();
        due.is(37, "none as yet", x.restore(), -3);
        x = Due.town("p00;p10;b0001;c1;y03;");
        due.is(36, "the year", x.image(), 3);
        x.years(5);
        x.cold(9);
        x.goes(0, 30);
        x.goes(1, 0);
        x.comes(7);
        x.keep(0, 1, 2, 3);
        x.ties(0, 1, 2);
        due.is(37, "the year", x.restore(), 3);
        due.is(37, "people", x.count(0), 2);
        due.is(37, "bands", x.count(1), 1);
        due.is(37, "year", x.count(2), 3);
        due.is(37, "cold", x.count(3), 1);
        due.is(37, "snapped", x.count(4), 0);
        due.is(37, "stung", x.count(5), 0);
        due.is(37, "place", x.person(0, 0) * 100 + x.person(1, 0), 307);
        due.is(37, "age", x.band(0, 4), 3);
        due.is(37, "figure", x.band(0, 1), 0);
        due.is(37, "shelves stay", x.cost(0), 10);
        x.years(1);
        due.is(37, "again", x.restore(), 3);
        x.years(2);
        due.is(36, "a newer one", x.image(), 5);
        x.years(2);
        due.is(37, "the newer one", x.restore(), 5);
        RubberBandsHoldFamilies y = new RubberBandsHoldFamilies();
        due.is(36, "of nobody", y.image(), 0);
        y.comes(3);
        due.is(37, "of nobody", y.restore(), 0);
        due.is(37, "nobody", y.count(0), 0);
    }

    private static void counts() {
        // Band 0 snaps, 1 is cut, 2 and 3 pull 8 and 16.
        RubberBandsHoldFamilies x = Due.town("p00;p11;p10;p08;b0001;b0002;x1;b0002;b5003;c1;y01;");
        due.is(38, "people", x.count(0), 4);
        due.is(38, "bands", x.count(1), 4);
        due.is(38, "year", x.count(2), 1);
        due.is(38, "cold", x.count(3), 1);
        due.is(38, "snapped ones", x.count(4), 3);
        due.is(38, "all stung", x.count(5), 2);
        due.is(38, "all pull", x.count(6), 6 + 12);
        due.is(38, "7", x.count(7), -1);
        due.is(38, "-1", x.count(-1), -1);
    }
}
