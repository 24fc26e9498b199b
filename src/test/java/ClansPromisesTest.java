/** Promises 22 to 26: clans. */
public final class ClansPromisesTest {
    private static final Due due = new Due();

    public static void main(String[] args) {
        clans();
        cousins();
        bridges();
        renewing();
        frosts();
        due.end("ClansPromisesTest");
    }

    private static void clans() {
        RubberBandsHoldFamilies nobody = new RubberBandsHoldFamilies();
        due.is(22, "nobody", nobody.clans(0), 0);
        due.is(22, "nobody", nobody.clans(1), 0);
        due.is(22, "no such what", nobody.clans(2), -1);
        due.is(22, "no such what", nobody.clans(-1), -1);
        RubberBandsHoldFamilies x = Due.town("p00;p00;p00;p00;p00;b0043;b0003;b0012;b0004;");
        due.is(22, "how many", x.clans(0), 2);
        due.is(22, "the greatest", x.clans(1), 3);
        RubberBandsHoldFamilies y = Due.town("p00;p00;p00;b0012;");
        due.is(22, "the first one alone", y.clans(0), 2);
        y.cuts(0);
        due.is(22, "each alone", y.clans(0) * 10 + y.clans(1), 31);
        RubberBandsHoldFamilies z = Due.town("p00;p00;p00;p00;p00;p00;p00;b0056;b0045;b0034;b0023;b0012;b0001;");
        due.is(22, "a chain of all", z.clans(0) * 10 + z.clans(1), 17);
        z.cuts(0);
        due.is(22, "the last one alone", z.clans(0) * 10 + z.clans(1), 26);
        x.cuts(1);
        due.is(22, "tied by the others still", x.clans(0), 2);
        x.cuts(0);
        due.is(22, "how many", x.clans(0), 3);
        due.is(22, "the greatest", x.clans(1), 2);
    }

    private static void cousins() {
        // A ring of five by a chain 0 3 1 4 2, and 5 by itself.
        RubberBandsHoldFamilies x = Due.town("p00;p00;p00;p00;p00;p00;b0003;b0031;b0014;b0042;b0020;");
        due.is(23, "by one", x.cousins(0, 3), 1);
        due.is(23, "by two", x.cousins(0, 1), 2);
        due.is(23, "the other way", x.cousins(4, 0), 2);
        due.is(23, "not tied", x.cousins(5, 0), -4);
        x.cuts(4);
        due.is(23, "the long way", x.cousins(0, 2), 4);
        due.is(23, "one twice", x.cousins(1, 1), -1);
        due.is(23, "no such one", x.cousins(0, 6), -1);
        due.is(23, "no such one", x.cousins(-1, 0), -1);
        RubberBandsHoldFamilies y = Due.town("p00;p00;p00;p00;p00;p00;p00;b0056;b0045;b0034;b0023;b0012;b0001;");
        due.is(23, "by six", y.cousins(0, 6), 6);
    }

    private static void bridges() {
        due.is(24, "none", new RubberBandsHoldFamilies().bridges(), 0);
        // A ring of three, then a tail of two bands, then a two-fold one.
        RubberBandsHoldFamilies x = Due.town("p00;p00;p00;p00;p00;p00;b0001;b0012;b0020;b0023;b0034;b0045;b0054;");
        due.is(24, "the tail", x.bridges(), 8 + 16);
        x.cuts(2);
        due.is(24, "the ring is open", x.bridges(), 1 + 2 + 8 + 16);
        x.cuts(5);
        due.is(24, "one of two is left", x.bridges(), 1 + 2 + 8 + 16 + 64);
    }

    private static void renewing() {
        RubberBandsHoldFamilies nobody = new RubberBandsHoldFamilies();
        due.is(25, "none", nobody.renew(4, 0), 0);
        due.is(25, "none", nobody.renew(4, 1), 0);
        // Of holds 8: 10 years old 6, 5 years old 7, and a new one.
        RubberBandsHoldFamilies x = Due.town("p00;p00;b0001;y05;b0001;y05;b0001;");
        due.is(25, "none", x.renew(0, 0), 0);
        due.is(25, "as it is", x.renew(0, 1), 21);
        due.is(25, "the oldest", x.renew(1, 0), 1);
        due.is(25, "that", x.renew(1, 1), 23);
        due.is(25, "both", x.renew(2, 0), 3);
        due.is(25, "that", x.renew(2, 1), 24);
        due.is(25, "of several the least", x.renew(4, 0), 3);
        due.is(25, "that", x.renew(4, 1), 24);
        due.is(25, "nothing is renewed", x.band(0, 4), 10);
        x.cuts(0);
        due.is(25, "not a snapped one", x.renew(4, 0), 2);
        due.is(25, "nor its holds", x.renew(4, 1), 16);
        due.is(25, "-1", x.renew(-1, 0), -1);
        due.is(25, "5", x.renew(5, 0), -1);
        due.is(25, "no such what", x.renew(0, 2), -1);
        due.is(25, "no such what", x.renew(0, -1), -1);
        // Five of 5 years: four at most. A red one 20 years old holds 0, not less: new it would hold 3.
        RubberBandsHoldFamilies y = Due.town("p00;p00;b3001;y20;b0001;b0001;b0001;b0001;y05;");
        due.is(25, "four at most", y.renew(4, 0), 1 + 2 + 4 + 8);
        due.is(25, "that", y.renew(4, 1), 3 + 8 + 8 + 8 + 7);
        // The stretch goes off.
        RubberBandsHoldFamilies z = Due.town("p00;p05;b0001;");
        due.is(25, "holds 8, stretch 3", z.renew(0, 1), 5);
        z.cold(4);
        due.is(25, "in the cold of 4", z.renew(0, 1), 3);
    }

    private static void frosts() {
        due.is(26, "none", new RubberBandsHoldFamilies().frost(0), -4);
        due.is(26, "none", new RubberBandsHoldFamilies().frost(1), -4);
        // Stretches 0, 7 and 7 of 8.
        RubberBandsHoldFamilies x = Due.town("p00;p09;p00;b0002;b0001;b0012;");
        due.is(26, "holds 6", x.frost(0), 4);
        due.is(26, "the least of two", x.frost(1), 1);
        due.is(26, "as it was", x.count(3) + x.count(4), 0);
        x.cold(3);
        due.is(26, "from any cold", x.frost(0), 4);
        x.cuts(1);
        due.is(26, "the other", x.frost(1), 2);
        x.cuts(2);
        due.is(26, "one not stretched never", x.frost(0), -4);
        due.is(26, "one not stretched never", x.frost(1), -4);
        due.is(26, "no such what", x.frost(2), -1);
        due.is(26, "no such what", x.frost(-1), -1);
        // The greatest cold takes 4: of 8 those of stretch 5 are snapped by 8 already, of stretch 4 never.
        due.is(26, "8", Due.town("p00;p07;b0001;").frost(0), 8);
        due.is(26, "never", Due.town("p00;p06;b0001;").frost(0), -4);
    }
}
