/** Promises 11 to 16: where one may go, years on. */
public final class YearsPromisesTest {
    private static final Due due = new Due();

    public static void main(String[] args) {
        mayGo();
        rests();
        yearsOn();
        stillness();
        firstSnaps();
        due.end("YearsPromisesTest");
    }

    private static void mayGo() {
        // A band of figure 0 lets them be 10 apart.
        RubberBandsHoldFamilies x = Due.town("p12;p15;p20;b0001;");
        due.is(11, "the least", x.mayGo(0, 0), 5);
        due.is(11, "the greatest", x.mayGo(0, 1), 25);
        due.is(11, "who is free", x.mayGo(2, 0), 0);
        due.is(11, "who is free", x.mayGo(2, 1), 30);
        due.is(11, "no such one", x.mayGo(3, 0), -1);
        due.is(11, "no such one", x.mayGo(-1, 0), -1);
        due.is(11, "no such what", x.mayGo(0, 2), -1);
        due.is(11, "no such what", x.mayGo(0, -1), -1);
        due.is(11, "nobody went", x.person(0, 0), 12);
        due.is(11, "nothing snapped", x.count(4), 0);
        x.cold(4);
        due.is(11, "in the cold", x.mayGo(0, 0), 7);
        x.cuts(0);
        due.is(11, "cut", x.mayGo(0, 0), 0);
    }

    private static void rests() {
        // Two widows (gauge 2, no slack) to 10 and 20: alike in the middle.
        RubberBandsHoldFamilies x = Due.town("p12;p10;p20;b5001;b5002;");
        due.is(12, "in the middle", x.rest(0), 15);
        // Three, of which two are at one place: never alike, least apart next to them.
        RubberBandsHoldFamilies y = Due.town("p12;p10;p20;p20;b5001;b5002;b5003;");
        due.is(12, "nearer to two", y.rest(0), 17);
        due.is(12, "who is free: of several the least", Due.town("p12;").rest(0), 0);
        // 0 may not go to the middle: the red one (figure 0, holds 3) keeps 0 within 3 of 12.
        RubberBandsHoldFamilies z = Due.town("p12;p10;p30;p12;b5001;b5002;b3003;");
        due.is(12, "as near as one may go", z.rest(0), 15);
        due.is(12, "where the other one is", x.rest(1), 12);
        due.is(12, "no such one", z.rest(4), -1);
        due.is(12, "no such one", z.rest(-1), -1);
        due.is(12, "nobody went", z.person(0, 0), 12);
    }

    private static void yearsOn() {
        RubberBandsHoldFamilies x = Due.town("p10;p13;p00;p23;b3001;b5002;b5013;");
        due.is(13, "now", x.placeIn(1, 0), 13);
        due.is(13, "a year on", x.placeIn(1, 1), 14);
        due.is(13, "at rest", x.placeIn(1, 60), 18);
        due.is(13, "the other", x.placeIn(0, 60), 5);
        due.is(13, "no such one", x.placeIn(4, 1), -1);
        due.is(13, "-1 years", x.placeIn(0, -1), -1);
        due.is(13, "61 years", x.placeIn(0, 61), -1);
        due.is(14, "now", x.snappedIn(0), 0);
        due.is(14, "a year on", x.snappedIn(1), 1);
        due.is(14, "-1 years", x.snappedIn(-1), -1);
        due.is(14, "61 years", x.snappedIn(61), -1);
        due.is(14, "in mind only", x.count(4) + x.count(2), 0);
        for (int i = 0; i < 16; i++) {
            x.years(60);
        }
        x.years(39);
        due.is(13, "the last year does not matter", x.placeIn(1, 60), 18);
        due.is(14, "the last year does not matter", x.snappedIn(60), 1);
        due.is(15, "the last year does not matter", x.still(), 0);
    }

    private static void stillness() {
        due.is(15, "nobody", new RubberBandsHoldFamilies().still(), 0);
        // 10 apart, slack 2: four years of steps.
        due.is(15, "four years", Due.town("p00;p10;b0001;").still(), 4);
        // 9 apart, gauge 1, slack 2: 7, 5, 3, then 1.
        due.is(15, "four years", Due.town("p00;p09;b0001;").still(), 4);
        // Two widows of odd distance swap sides for ever.
        due.is(15, "never", Due.town("p00;p03;b5001;").still(), -4);
        // Four steps and four snappings in the first year do not make up for one another.
        due.is(15, "five years", Due.town("p10;p13;p00;p23;b3001;b3001;b3001;b3001;b5002;b5013;").still(), 5);
        // Counted from now: the knot (slack 1) of 4 apart has drawn them to 2 apart.
        RubberBandsHoldFamilies x = Due.town("p10;p14;b4001;");
        x.years(1);
        due.is(15, "one more step each", x.still(), 1);
    }

    private static void firstSnaps() {
        due.is(16, "none", new RubberBandsHoldFamilies().firstSnap(0), -4);
        due.is(16, "none", new RubberBandsHoldFamilies().firstSnap(1), -4);
        due.is(16, "no such what", new RubberBandsHoldFamilies().firstSnap(2), -1);
        due.is(16, "no such what", new RubberBandsHoldFamilies().firstSnap(-1), -1);
        RubberBandsHoldFamilies x = Due.town("p10;p13;p00;p23;b6901;b3001;b3001;b5002;b5013;");
        due.is(16, "the first year", x.firstSnap(0), 1);
        due.is(16, "the least of two", x.firstSnap(1), 1);
        due.is(16, "nothing snapped", x.count(4), 0);
        // Red ones of figure 0 (no slack, hold 3; behind 5 years 2) draw the outer ones in ahead of that.
        RubberBandsHoldFamilies z = Due.town("p10;p13;p16;b3001;b3012;");
        due.is(16, "the outer ones come in", z.firstSnap(0), -4);
        // Two swap sides of one place for ever by a red one of stretch 1, which holds nothing behind 15 years.
        RubberBandsHoldFamilies w = Due.town("p10;p11;b3001;");
        due.is(16, "worn out", w.firstSnap(0), 15);
        due.is(16, "that", w.firstSnap(1), 0);
        due.is(15, "still behind it", w.still(), 15);
        due.is(14, "a year ahead of it", w.snappedIn(14), 0);
        due.is(14, "behind it", w.snappedIn(15), 1);
        w.years(14);
        due.is(16, "from now", w.firstSnap(0), 1);
        // Found by search: one that is worn out in the last year looked at, and one in the year behind it.
        due.is(16, "60", Due.town("p03;p05;p00;p02;b5531;b5402;b1130;").firstSnap(0), 60);
        RubberBandsHoldFamilies late = Due.town("p02;p01;p00;p02;p02;b1113;b5612;b3520;b4421;b5034;b0230;y04;");
        int before = late.count(4);
        due.is(16, "61", late.firstSnap(0), -4);
        due.is(14, "60", late.snappedIn(60), before);
        late.years(1);
        due.is(16, "60 from now", late.firstSnap(0), 60);
    }
}
