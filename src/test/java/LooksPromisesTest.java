/** Promises 27 to 32: what is gone, what it is. */
public final class LooksPromisesTest {
    private static final Due due = new Due();

    public static void main(String[] args) {
        lurches();
        gauges();
        twos();
        nights();
        means();
        farthest();
        due.end("LooksPromisesTest");
    }

    private static void lurches() {
        // Widows pull 20, 20 and 40: without the first 0, 1, 2 lean 40, 20, -60; the second 60, -20, -40; the third 20, 0, -20.
        RubberBandsHoldFamilies x = Due.town("p00;p10;p20;b5001;b5012;b5020;");
        lurch(x, 1, 2, 40);
        lurch(x, 1, 0, 40, 20, -60);
        lurch(x, 4, 1, -32768, 0);
        lurch(x, 2, 0, -128, -128, -40);
        lurch(x, 0, 1, -128);
        lurch(x, 0, 2, 40, 20, -59);
        lurch(x, 2, 2, 60, Integer.MIN_VALUE, Integer.MIN_VALUE);
        lurch(x, 7, 2);
        lurch(x, 7, 0, -128, -128, -128);
        due.is(27, "nothing is gone", x.count(4), 0);
        x.cuts(2);
        lurch(x, 3, 2);
        lurch(x, 1, 2, 0);
        x.goes(1, 5);
        lurch(x, 1, 2, 0, 30, -30);
        Due.fill(x, 0, 1, 0, 0, 0, 0);
        due.is(27, "more than people", x.lurch(0, 0), -13);
        due.is(27, "no such what", x.lurch(0, 2), -1);
        due.is(27, "no such what", x.lurch(1, -1), -1);
        due.is(27, "no such shelf", x.lurch(8, 0), -1);
        due.is(27, "nothing held", x.lurch(1, 0), -11);
        x.keep(1, 1, 0, 0);
        due.is(27, "a kind", x.lurch(1, 0), -12);
    }

    private static void lurch(RubberBandsHoldFamilies x, int bits, int sort, int... told) {
        Due.fill(x, 0, sort, told);
        due.is(27, "lurch by " + java.util.Arrays.toString(told), x.lurch(0, 0), bits);
        due.is(27, "how many", x.lurch(0, 1), Integer.bitCount(bits));
    }

    private static void gauges() {
        RubberBandsHoldFamilies x = new RubberBandsHoldFamilies();
        gauge(x, 5, 4, 0, 0, 0, 0, 0, 0, 3, 6);
        gauge(x, 5, 255, 0, 0);
        gauge(x, 5, 255 - 32, 0, 0, 0);
        gauge(x, 5, 32, 0, 0, 2);
        gauge(x, 5, 255, 0, 0, -128);
        gauge(x, 5, 0, 1, 0, -128);
        gauge(x, 5, 2, 1, -32768, -32768, -32768, -32768, 2);
        gauge(x, 5, 255, 2);
        // With figure 0 a band's slack and twins' are both 2, a marriage's and a knot's 1.
        gauge(x, 0, 1 + 4 + 64, 2, 0, 0, 0);
        gauge(x, 0, 1, 2, 0, 0, 0, 1);
        gauge(x, 0, 8, 2, 0, 1);
        gauge(x, 0, 128, 2, 0, 4);
        gauge(x, 0, 2, 2, 0, 0, 2);
        gauge(x, 0, 16, 2, 0, 0, 3);
        gauge(x, 9, 128, 2, Integer.MIN_VALUE, 0);
        x.put(0, 0, 0);
        due.is(28, "9 has many", x.gauges(0, 9, 0), 255 - 32);
        // A hundred numbers, farther than a town goes: an inlaw of 9 has slack 15.
        x.row(0, 0, 100);
        for (int apart = 16; apart < 100; apart++) {
            x.put(0, apart, apart - 15);
        }
        due.is(28, "an inlaw", x.gauges(0, 9, 0), 64);
        x.put(0, 99, 85);
        due.is(28, "the last one is not so", x.gauges(0, 9, 0), 0);
        due.is(28, "no such figure", x.gauges(0, 10, 0), -1);
        due.is(28, "no such figure", x.gauges(0, -1, 0), -1);
        due.is(28, "no such what", x.gauges(0, 0, 2), -1);
        due.is(28, "no such what", x.gauges(0, 0, -1), -1);
        due.is(28, "no such shelf", x.gauges(-1, 0, 0), -1);
        due.is(28, "-1 ahead of nothing held", x.gauges(1, 10, 0), -1);
        due.is(28, "nothing held", x.gauges(1, 0, 0), -11);
        x.keep(1, 1, 0, 0);
        due.is(28, "a kind", x.gauges(1, 0, 0), -12);
    }

    private static void gauge(RubberBandsHoldFamilies x, int f, int bits, int sort, int... told) {
        Due.fill(x, 0, sort, told);
        boolean isLast = f == 9;
        due.is(28, "gauges by " + java.util.Arrays.toString(told), x.gauges(0, f, 0), isLast ? 255 - 32 : bits);
        due.is(28, "how many", x.gauges(0, f, 1), Integer.bitCount(isLast ? 255 - 32 : bits));
    }

    private static void twos() {
        RubberBandsHoldFamilies x = Due.town("p10;p20;p00;p30;p10;");
        due.is(29, "both step", x.two(0, 1), 11);
        due.is(29, "below 0 nobody steps", x.two(2, 1), 1);
        due.is(29, "nor above 30", x.two(3, 1), 1);
        due.is(29, "nor so", x.two(1, 3), 10);
        due.is(29, "neither can", x.two(2, 3), 0);
        due.is(29, "one place", x.two(0, 4), -3);
        due.is(29, "one twice", x.two(0, 0), -1);
        due.is(29, "no such one", x.two(0, 5), -1);
        due.is(29, "no such one", x.two(-1, 0), -1);
        due.is(29, "a widow pulls 2 more a step", Due.town("p10;p20;b5010;").two(0, 1), 11);
        due.is(29, "twins 3, as much as a step has", Due.town("p10;p20;b2001;").two(0, 1), 0);
        RubberBandsHoldFamilies y = Due.town("p10;p20;p20;b5010;b5001;b5002;b5002;");
        due.is(29, "two widows 4", y.two(0, 1), 0);
        due.is(29, "those to others do not matter", y.two(1, 2), -3);
        y.cuts(1);
        due.is(29, "a cut one does not matter", y.two(0, 1), 11);
        // A feud of 5 has slack 10: the first step costs nothing, the second one 4.
        RubberBandsHoldFamilies z = Due.town("p10;p19;b7501;");
        due.is(29, "the other one steps", z.two(0, 1), 1);
        due.is(29, "the other one steps", z.two(1, 0), 1);
        // 0 can't step; 1 can.
        due.is(29, "the one that can", Due.town("p00;p09;b7501;").two(1, 0), 10);
        due.is(29, "to 0 and to 30 one can", Due.town("p01;p29;").two(0, 1), 11);
        due.is(29, "to 30 and to 0 one can", Due.town("p29;p01;").two(0, 1), 11);
        // They do not GO: nothing is tried, a red one (holds 3) of stretch 3 pulls 4 then.
        due.is(29, "not tried", Due.town("p10;p13;b3001;b3001;b3001;b3001;").two(0, 1), 0);
    }

    private static void nights() {
        // A ring of three: 1/2 and 1/8, 2/3 and 4/27; 3 by itself.
        RubberBandsHoldFamilies x = Due.town("p00;p00;p00;p00;b0001;b0012;b0020;");
        night(x, 0, 1, 2, 5, 8);
        night(x, 2, 0, 3, 22, 27);
        night(x, 0, 3, 2, 0, 1);
        x.cuts(0);
        night(x, 0, 1, 20, 361, 400);
        night(x, 1, 2, 20, 19, 20);
        x.cuts(1);
        night(x, 0, 1, 20, 0, 1);
        due.is(30, "one twice", x.night(1, 1, 2, 0), 1000000001L);
        due.is(30, "no such one", x.night(0, 4, 2, 0), 1000000001L);
        due.is(30, "no such one", x.night(-1, 0, 2, 0), 1000000001L);
        due.is(30, "t 1", x.night(0, 1, 1, 0), 1000000001L);
        due.is(30, "t 21", x.night(0, 1, 21, 0), 1000000001L);
        due.is(30, "no such part", x.night(0, 1, 2, 2), 1000000001L);
        due.is(30, "no such part", x.night(0, 1, 2, -1), 1000000001L);
        // Ten round two: all but one in a thousand and 24; of twenty-tieths 20 by 10 times itself less 1.
        RubberBandsHoldFamilies y = Due.town("p00;p00;" + "b0001;".repeat(10));
        night(y, 0, 1, 2, 1023, 1024);
        night(y, 0, 1, 20, 10239999999999L, 10240000000000L);
    }

    private static void night(RubberBandsHoldFamilies x, int a, int b, int t, long above, long below) {
        due.is(30, "night(" + a + ", " + b + ", " + t + ") above", x.night(a, b, t, 0), above);
        due.is(30, "night(" + a + ", " + b + ", " + t + ") below", x.night(a, b, t, 1), below);
    }

    private static void means() {
        RubberBandsHoldFamilies x = new RubberBandsHoldFamilies();
        mean(x, 0, 1);
        due.is(31, "no such part", x.mean(2), 1000000001L);
        due.is(31, "no such part", x.mean(-1), 1000000001L);
        // Stretches 8, 3 and 3, then one cut away, then two.
        x = Due.town("p00;p10;p05;b0001;b0002;b0012;");
        mean(x, 14, 3);
        x.cuts(1);
        mean(x, 11, 2);
        x.cuts(0);
        mean(x, 3, 1);
        x.cuts(2);
        mean(x, 0, 1);
        mean(Due.town("p00;p10;p05;b0001;b0002;b0012;b0012;b0012;b0012;"), 23, 6);
        mean(Due.town("p00;p06;p00;b0001;b0002;"), 2, 1);
        mean(Due.town("p00;p05;b0001;"), 3, 1);
        mean(Due.town("p00;p00;b0001;b0001;b0001;"), 0, 1);
    }

    private static void mean(RubberBandsHoldFamilies x, long above, long below) {
        due.is(31, "mean(0)", x.mean(0), above);
        due.is(31, "mean(1)", x.mean(1), below);
    }

    private static void farthest() {
        RubberBandsHoldFamilies x = new RubberBandsHoldFamilies();
        x.comes(5);
        due.is(32, "one", x.farthest(0), -4);
        due.is(32, "one", x.farthest(1), -4);
        x.comes(5);
        due.is(32, "two at one place", x.farthest(0), 1);
        due.is(32, "two at one place", x.farthest(1), 0);
        x.comes(9);
        due.is(32, "of several the first", x.farthest(0), 2);
        due.is(32, "how far", x.farthest(1), 4);
        x.comes(0);
        due.is(32, "the last ones", x.farthest(0), 23);
        due.is(32, "how far", x.farthest(1), 9);
        due.is(32, "no such what", x.farthest(2), -1);
        due.is(32, "no such what", x.farthest(-1), -1);
    }
}
