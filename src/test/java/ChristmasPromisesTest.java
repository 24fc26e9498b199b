/** Promises 17 to 21: Christmas, tangles. */
public final class ChristmasPromisesTest {
    private static final Due due = new Due();

    public static void main(String[] args) {
        christmas();
        orders();
        ordersAreTheFewest();
        lettingGo();
        tangles();
        due.end("ChristmasPromisesTest");
    }

    private static void christmas() {
        RubberBandsHoldFamilies nobody = new RubberBandsHoldFamilies();
        for (int what = 0; what <= 2; what++) {
            due.is(17, "nobody", nobody.christmas(what), 0);
        }
        due.is(17, "no such what", nobody.christmas(3), -1);
        due.is(17, "no such what", nobody.christmas(-1), -1);
        RubberBandsHoldFamilies x = Due.town("p20;p04;p10;");
        due.is(17, "in the middle", x.christmas(0), 10);
        due.is(17, "how far", x.christmas(1), 16);
        due.is(17, "no band", x.christmas(2), 0);
        x.comes(12);
        due.is(17, "of several the least", x.christmas(0), 10);
        due.is(17, "how far", x.christmas(1), 18);
        due.is(17, "the last place", Due.town("p30;").christmas(0), 30);
        // 0 at 10 goes ahead of 1 at 0: then they are 20 apart, and a band of figure 0 lets them be 10.
        RubberBandsHoldFamilies y = Due.town("p10;p00;p20;p20;p20;b0001;b6902;");
        due.is(17, "by numbers", y.christmas(2), 1);
        due.is(17, "in mind only", y.count(4) + y.count(5), 0);
    }

    private static void orders() {
        RubberBandsHoldFamilies nobody = new RubberBandsHoldFamilies();
        due.is(18, "nobody", nobody.order(-1), 0);
        due.is(18, "no i-th one", nobody.order(0), -1);
        due.is(18, "-2", nobody.order(-2), -1);
        RubberBandsHoldFamilies y = Due.town("p10;p00;p20;p20;p20;b0001;b6902;");
        isOrder(y, 0, 1, 0, 2, 3, 4);
        due.is(18, "no sixth", y.order(5), -1);
        due.is(18, "-2", y.order(-2), -1);
        // 0 at 0 and 1 at 10 are both too far from 25: the band snaps whoever goes first.
        isOrder(Due.town("p00;p10;p25;p25;p25;b0001;"), 1, 0, 1, 2, 3, 4);
        // 2 must go ahead of 1 (a band of 3 lets them be 16 apart), and 1 ahead of 0.
        isOrder(Due.town("p16;p08;p00;p24;p24;p24;p24;b0001;b0312;"), 0, 2, 1, 0, 3, 4, 5, 6);
        // 3 must go ahead of 1: the others come as early as that lets.
        isOrder(Due.town("p24;p14;p24;p07;p24;p24;p24;b0013;"), 0, 0, 2, 3, 1, 4, 5, 6);
    }

    private static void isOrder(RubberBandsHoldFamilies x, int fewest, int... order) {
        due.is(18, "how many", x.order(-1), fewest);
        for (int i = 0; i < order.length; i++) {
            due.is(18, "order(" + i + ")", x.order(i), order[i]);
        }
        due.is(18, "in mind only", x.count(4), 0);
    }

    /** The order told goes there with as many snapped as told, and no other with fewer. */
    private static void ordersAreTheFewest() {
        RubberBandsHoldFamilies x = Due.town("p24;p10;p24;p06;p00;p24;p24;b0034;b0534;b0014;b0314;b3213;b0724;");
        due.is(18, "nothing snapped as yet", x.count(4), 0);
        x.image();
        int[] told = new int[7];
        for (int i = 0; i < 7; i++) {
            told[i] = x.order(i);
        }
        int fewest = x.order(-1);
        int[] least = {Integer.MAX_VALUE};
        int[] first = new int[7];
        tryOrders(x, x.christmas(0), new int[7], 0, 0, least, first);
        due.is(18, "how many", fewest, least[0]);
        due.holds("a few are snapped in any order", least[0] > 0);
        for (int i = 0; i < 7; i++) {
            due.is(18, "order(" + i + ")", told[i], first[i]);
        }
    }

    private static void tryOrders(RubberBandsHoldFamilies x, int place, int[] order, int n, int gone, int[] least, int[] first) {
        if (n == order.length) {
            x.restore();
            int snapped = 0;
            for (int p : order) {
                snapped += x.goes(p, place);
            }
            x.restore();
            if (snapped < least[0]) {
                least[0] = snapped;
                System.arraycopy(order, 0, first, 0, n);
            }
        }
        for (int p = 0; p < order.length; p++) {
            if ((gone >> p & 1) == 0) {
                order[n] = p;
                tryOrders(x, place, order, n + 1, gone | 1 << p, least, first);
            }
        }
    }

    private static void lettingGo() {
        RubberBandsHoldFamilies x = Due.town("p10;p10;p15;b0001;b0002;");
        due.is(19, "none", x.letGo(0, 5), 0);
        due.is(19, "one", x.letGo(0, 4), 2);
        due.is(19, "both", x.letGo(0, 30), 3);
        due.is(19, "in mind only", x.count(4), 0);
        due.is(19, "no such one", x.letGo(3, 0), -1);
        due.is(19, "no such place", x.letGo(0, 31), -1);
        due.is(19, "no such place", x.letGo(0, -1), -1);
        x.cuts(0);
        due.is(19, "the cut one is let go already", x.letGo(0, 30), 2);
    }

    private static void tangles() {
        String people = "p00;p05;p10;p15;p20;p25;";
        // 0 to 10, 5 to 15, 10 to 20, 0 to 25, 15 to 20: the second crosses the first and the third, the others touch.
        RubberBandsHoldFamilies x = Due.town(people + "b6902;b6931;b6924;b6905;b6943;");
        due.is(20, "how many", x.crossing(0), 2);
        due.is(20, "the first", x.crossing(1), 1);
        due.is(21, "the one", x.untangle(), 2);
        x.cuts(1);
        due.is(20, "how many", x.crossing(0), 0);
        due.is(20, "none", x.crossing(1), -4);
        due.is(21, "none", x.untangle(), 0);
        due.is(20, "no such what", x.crossing(2), -1);
        due.is(20, "no such what", x.crossing(-1), -1);
        // The third and the fourth cross: of two alike the least bits.
        RubberBandsHoldFamilies y = Due.town(people + "b6912;b6901;b6914;b6935;");
        due.is(20, "the first", y.crossing(1), 23);
        due.is(21, "of several the least", y.untangle(), 4);
        // Others at the same places touch likewise; alike bands do not cross.
        RubberBandsHoldFamilies z = Due.town("p05;p10;p05;p10;p20;b6901;b6923;b6934;b6914;");
        due.is(20, "none", z.crossing(0), 0);
        // Three that cross one another: two must go; a fourth that crosses nobody stays.
        RubberBandsHoldFamilies w = Due.town(people + "b6905;b6903;b6914;b6925;");
        due.is(20, "three twos", w.crossing(0), 3);
        due.is(20, "the first", w.crossing(1), 12);
        due.is(21, "two of them", w.untangle(), 6);
    }
}
