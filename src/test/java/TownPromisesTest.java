/** Promises 1 to 10: the town as told. */
public final class TownPromisesTest {
    private static final Due due = new Due();

    public static void main(String[] args) {
        newObject();
        texts();
        formFaults();
        statementFaults();
        personsAndBands();
        comings();
        tyings();
        goings();
        colds();
        yearsGoBy();
        cuttings();
        due.end("TownPromisesTest");
    }

    private static void newObject() {
        RubberBandsHoldFamilies x = new RubberBandsHoldFamilies();
        for (int what = 0; what <= 6; what++) {
            due.is(1, "count(" + what + ")", x.count(what), 0);
        }
        due.is(1, "person(0, 0)", x.person(0, 0), -1);
        due.is(1, "band(0, 0)", x.band(0, 0), -1);
        due.is(1, "restore()", x.restore(), -3);
        for (int d = 0; d < 8; d++) {
            due.is(1, "cost(" + d + ")", x.cost(d), -11);
        }
    }

    private static void texts() {
        RubberBandsHoldFamilies x = new RubberBandsHoldFamilies();
        due.is(2, "nothing held", x.town(0), -11);
        due.is(2, "no such shelf", x.town(-1), -1);
        due.is(2, "no such shelf", x.town(8), -1);
        x.keep(0, 1, 0, 0);
        due.is(2, "a kind", x.town(0), -12);
        x.row(0, 1, 4);
        due.is(2, "shorts", x.town(0), -12);
        x.row(0, 2, 4);
        due.is(2, "ints", x.town(0), -12);
        // One band of stretch 8 that holds 8, and 7 in the cold of 2.
        Due.write(x, 0, "p00;p09;b0001;g110;c2;y01;");
        due.is(2, "six statements", x.town(0), 6);
        due.is(2, "snapped by the cold", x.count(4), 1);
        due.is(2, "both stung", x.count(5), 2);
        due.is(2, "the year", x.count(2), 1);
        due.is(2, "the cold", x.count(3), 2);
        due.is(2, "gone to", x.person(1, 0), 10);
        due.is(2, "the row stays", x.element(0, 1), '0');
        Due.write(x, 0, "p30;b1912;x1;");
        due.is(2, "more of the town", x.town(0), 3);
        due.is(2, "a third person", x.person(2, 0), 30);
        due.is(2, "a second band, cut", x.count(4), 3);
        due.is(2, "nobody stung by a cut", x.count(5), 2);
        // The next text goes on from what the calls have made meanwhile.
        x.goes(1, 3);
        x.years(2);
        Due.write(x, 0, "y01;");
        due.is(2, "one more year", x.town(0), 1);
        due.is(2, "three years more", x.count(2), 4);
        due.is(2, "gone meanwhile", x.person(1, 0), 3);
        due.is(2, "no year", Due.answerTo("p00;y60;y60;y60;y60;"), 5);
        due.is(2, "all years", Due.answerTo("y60;".repeat(16) + "y39;"), 17);
        due.is(2, "a hundred bytes", Due.answerTo("c0;".repeat(32) + "p00;"), 33);
    }

    private static void formFaults() {
        due.is(2, "no statement", Due.answerTo(""), -1000);
        due.is(2, "p", Due.answerTo("p"), -1001);
        due.is(2, "p0", Due.answerTo("p0"), -1002);
        due.is(2, "p00", Due.answerTo("p00"), -1003);
        due.is(2, "q00;", Due.answerTo("q00;"), -1000);
        due.is(2, "P00;", Due.answerTo("P00;"), -1000);
        due.is(2, ";", Due.answerTo(";"), -1000);
        due.is(2, "p0a;", Due.answerTo("p0a;"), -1002);
        due.is(2, "p0/;", Due.answerTo("p0/;"), -1002);
        due.is(2, "p:0;", Due.answerTo("p:0;"), -1001);
        due.is(2, "p00,", Due.answerTo("p00,"), -1003);
        due.is(2, "p000;", Due.answerTo("p000;"), -1003);
        due.is(2, "p00;;", Due.answerTo("p00;;"), -1004);
        due.is(2, "p00; p01;", Due.answerTo("p00; p01;"), -1004);
        due.is(2, "p00;x", Due.answerTo("p00;x"), -1005);
        due.is(2, "b000;", Due.answerTo("b000;"), -1004);
        due.is(2, "b00001;", Due.answerTo("b00001;"), -1005);
        due.is(2, "g00;", Due.answerTo("g00;"), -1003);
        due.is(2, "c10;", Due.answerTo("c10;"), -1002);
        due.is(2, "y1;", Due.answerTo("y1;"), -1002);
        due.is(2, "x00;", Due.answerTo("x00;"), -1002);
        due.is(2, "kind 1 ahead of kind 2", Due.answerTo("p99;p"), -1005);
        RubberBandsHoldFamilies x = new RubberBandsHoldFamilies();
        Due.fill(x, 0, 0, 'p', -48, '0', ';');
        due.is(2, "a byte below 0", x.town(0), -1001);
        due.is(2, "nobody came", x.count(0), 0);
    }

    private static void statementFaults() {
        due.is(2, "place 31", Due.answerTo("p30;p31;"), -2004);
        due.is(2, "kind 8", Due.answerTo("p00;p00;b8001;"), -2008);
        due.is(2, "no such end", Due.answerTo("p00;p00;b0002;"), -2008);
        due.is(2, "no such first end", Due.answerTo("p00;p00;b0020;"), -2008);
        due.is(2, "one twice", Due.answerTo("p00;p00;b0011;"), -2008);
        due.is(2, "no one to go", Due.answerTo("p00;g105;"), -2004);
        due.is(2, "nowhere to go", Due.answerTo("p00;g031;"), -2004);
        due.is(2, "no years", Due.answerTo("y00;"), -2000);
        due.is(2, "too many years", Due.answerTo("y61;"), -2000);
        due.is(2, "year 1000", Due.answerTo("y60;".repeat(16) + "y40;"), -2064);
        due.is(2, "no such band", Due.answerTo("p00;p00;b0001;x1;"), -2014);
        due.is(2, "cut twice", Due.answerTo("p00;p00;b0001;x0;x0;"), -2017);
        due.is(2, "cut when snapped", Due.answerTo("p00;p30;b0001;x0;"), -2014);
        due.is(2, "no room for one", Due.answerTo("p00;".repeat(8)), -2028);
        due.is(2, "no room for a band", Due.answerTo("p00;p00;" + "b0001;".repeat(11)), -2068);
        due.is(2, "said before it comes", Due.answerTo("b0001;p00;p00;"), -2000);
        RubberBandsHoldFamilies x = Due.town("p10;p20;b0001;c1;");
        Due.write(x, 0, "p15;g029;c9;y05;b5902;x9;");
        due.is(2, "the last one can't be done", x.town(0), -2022);
        due.is(2, "nobody came", x.count(0), 2);
        due.is(2, "no band came", x.count(1), 1);
        due.is(2, "no year went", x.count(2), 0);
        due.is(2, "it is as cold", x.count(3), 1);
        due.is(2, "nothing snapped", x.count(4), 0);
        due.is(2, "nobody stung", x.count(5), 0);
        due.is(2, "nobody went", x.person(0, 0), 10);
    }

    /** Each kind with figure 5, round 0 (at 0) and 1 (at 8): slack, gauge, holds. */
    private static void personsAndBands() {
        RubberBandsHoldFamilies x = new RubberBandsHoldFamilies();
        x.comes(0);
        x.comes(8);
        int[] slack = {7, 3, 4, 5, 6, 0, 11, 10};
        int[] gauge = {1, 2, 3, 1, 3, 2, 1, 4};
        int[] holds = {13, 17, 34, 3, 6, 30, 13, 5};
        int pull = 0;
        for (int kind = 0; kind < 8; kind++) {
            x.keep(0, 1, kind, 5);
            due.is(6, "ties", x.ties(0, kind % 2, 1 - kind % 2), kind);
            int stretch = Math.max(0, 8 - slack[kind]);
            pull += stretch * gauge[kind];
            due.is(4, "kind", x.band(kind, 0), kind);
            due.is(4, "figure", x.band(kind, 1), 5);
            due.is(4, "one end", x.band(kind, 2), kind % 2);
            due.is(4, "the other end", x.band(kind, 3), 1 - kind % 2);
            due.is(4, "age", x.band(kind, 4), 0);
            due.is(4, "snapped", x.band(kind, 5), 0);
            due.is(4, "stretch", x.band(kind, 6), stretch);
            due.is(4, "pull", x.band(kind, 7), stretch * gauge[kind]);
            due.is(4, "holds now", x.band(kind, 8), holds[kind]);
        }
        due.is(3, "left of the left one", x.person(0, 2), 0);
        due.is(3, "right of the left one", x.person(0, 3), pull);
        due.is(3, "left of the right one", x.person(1, 2), pull);
        due.is(3, "right of the right one", x.person(1, 3), 0);
        due.is(38, "all pull", x.count(6), pull);
        due.is(4, "no such band", x.band(8, 0), -1);
        due.is(4, "no such band", x.band(-1, 0), -1);
        due.is(4, "no such what", x.band(0, 9), -1);
        due.is(4, "no such what", x.band(0, -1), -1);
        due.is(3, "no such one", x.person(2, 0), -1);
        due.is(3, "no such one", x.person(-1, 0), -1);
        due.is(3, "no such what", x.person(0, 4), -1);
        due.is(3, "no such what", x.person(0, -1), -1);
        // One place apart counts, and none does not.
        RubberBandsHoldFamilies near = Due.town("p05;p06;p05;b5001;b5002;");
        due.is(3, "right, by one", near.person(0, 3), 2);
        due.is(3, "left, by one", near.person(1, 2), 2);
        due.is(3, "left, at one place", near.person(2, 2) + near.person(2, 3), 0);
        // Halves are cut: of figure 1 a marriage's slack is 3 by 2, a knot's holds 9 by 2.
        x.keep(0, 1, 1, 1);
        due.is(6, "ties", x.ties(0, 0, 1), 8);
        due.is(4, "a marriage of 1", x.band(8, 6), 7);
        x.keep(0, 1, 4, 1);
        due.is(6, "ties", x.ties(0, 0, 1), 9);
        due.is(4, "a knot of 1 holds", x.band(9, 8), 4);
        due.is(4, "snapped", x.band(9, 5), 1);
        due.is(4, "it is stretched still", x.band(9, 6), 6);
        due.is(4, "it pulls no more", x.band(9, 7), 0);
        due.is(3, "stung", x.person(0, 1), 1);
    }

    private static void comings() {
        RubberBandsHoldFamilies x = new RubberBandsHoldFamilies();
        due.is(5, "place 31", x.comes(31), -1);
        due.is(5, "place -1", x.comes(-1), -1);
        for (int p = 0; p < 7; p++) {
            due.is(5, "comes", x.comes(p * 5), p);
            due.is(3, "place", x.person(p, 0), p * 5);
            due.is(3, "not stung", x.person(p, 1), 0);
        }
        due.is(5, "no room", x.comes(0), -2);
        // Who comes, and what is tied, where there was one ahead of THE IMAGE's RESTORING is new.
        RubberBandsHoldFamilies y = new RubberBandsHoldFamilies();
        y.image();
        y.comes(0);
        y.comes(9);
        y.keep(0, 1, 0, 0);
        y.ties(0, 0, 1);
        y.years(7);
        y.goes(0, 30);
        due.is(3, "stung", y.person(0, 1), 1);
        y.restore();
        y.comes(0);
        y.comes(3);
        due.is(5, "not stung", y.person(0, 1) + y.person(1, 1), 0);
        y.ties(0, 0, 1);
        due.is(6, "not old", y.band(0, 4), 0);
        due.is(6, "not snapped", y.band(0, 5), 0);
        due.is(5, "no place ahead of no room", x.comes(31), -1);
    }

    private static void tyings() {
        RubberBandsHoldFamilies x = new RubberBandsHoldFamilies();
        x.comes(0);
        x.comes(20);
        due.is(6, "nothing held", x.ties(0, 0, 1), -11);
        due.is(6, "one twice ahead of nothing", x.ties(0, 1, 1), -1);
        due.is(6, "no such one", x.ties(0, 0, 2), -1);
        due.is(6, "no such one", x.ties(0, -1, 1), -1);
        due.is(6, "no such shelf", x.ties(8, 0, 1), -1);
        x.row(0, 0, 3);
        due.is(6, "a row", x.ties(0, 0, 1), -12);
        x.keep(1, 1, 6, 9);
        for (int b = 0; b < 10; b++) {
            due.is(6, "ties", x.ties(1, 1, 0), b);
        }
        due.is(6, "no room", x.ties(1, 0, 1), -2);
        due.is(6, "a row ahead of no room", x.ties(0, 0, 1), -12);
        due.is(6, "the kind stays on its shelf", x.cost(1), 7);
        RubberBandsHoldFamilies y = Due.town("p00;p30;");
        y.keep(0, 1, 0, 0);
        due.is(6, "snapped at once", y.ties(0, 0, 1), 0);
        due.is(6, "snapped at once", y.count(4), 1);
        due.is(6, "both stung", y.count(5), 2);
    }

    private static void goings() {
        // Bands of figure 0 (slack 2, holds 8) to 1 and 2.
        RubberBandsHoldFamilies x = Due.town("p10;p10;p15;b0001;b0002;");
        due.is(7, "no such one", x.goes(3, 0), -1);
        due.is(7, "no such place", x.goes(0, 31), -1);
        due.is(7, "no such place", x.goes(0, -1), -1);
        due.is(7, "as far as they hold", x.goes(0, 5), 0);
        due.is(7, "one step more", x.goes(0, 4), 1);
        due.is(7, "the one", x.count(4), 2);
        due.is(7, "no more by it", x.goes(0, 0), 0);
        due.is(7, "the other", x.goes(1, 11), 1);
        due.is(7, "stung twice", x.person(0, 1), 2);
        RubberBandsHoldFamilies y = Due.town("p10;p10;p15;b0001;b0002;");
        due.is(7, "both at once", y.goes(0, 30), 2);
    }

    private static void colds() {
        // Stretch 8 of 8, and stretch 6 of 8.
        RubberBandsHoldFamilies x = Due.town("p00;p10;p08;b0001;b0002;");
        due.is(8, "10", x.cold(10), -1);
        due.is(8, "-1", x.cold(-1), -1);
        due.is(8, "1", x.cold(1), 0);
        due.is(8, "2", x.cold(2), 1);
        due.is(8, "5", x.cold(5), 0);
        due.is(4, "holds now", x.band(1, 8), 6);
        due.is(8, "6", x.cold(6), 1);
        due.is(8, "0", x.cold(0), 0);
        due.is(38, "cold", x.count(3), 0);
        due.is(38, "one snapped by each cold", x.count(4), 3);
        // A red one holds 3: never less than 0.
        RubberBandsHoldFamilies y = Due.town("p00;p00;b3001;");
        y.cold(9);
        due.is(4, "holds now", y.band(0, 8), 0);
        due.is(8, "not stretched, it stays", y.count(4), 0);
    }

    private static void yearsGoBy() {
        // Pulled to one another till the band (slack 2) is slack: 10, 8, 6, 4, 2 apart.
        RubberBandsHoldFamilies x = Due.town("p00;p10;b0001;");
        due.is(9, "0", x.years(0), -1);
        due.is(9, "61", x.years(61), -1);
        due.is(9, "1", x.years(1), 0);
        due.is(9, "both stepped", x.person(0, 0) * 100 + x.person(1, 0), 109);
        due.is(9, "older", x.band(0, 4), 1);
        due.is(9, "60", x.years(60), 0);
        due.is(9, "at rest", x.person(0, 0) * 100 + x.person(1, 0), 406);
        for (int i = 0; i < 15; i++) {
            x.years(60);
        }
        due.is(9, "961", x.count(2), 961);
        due.is(9, "no older than 99", x.band(0, 4), 99);
        due.is(9, "none of them goes", x.years(39), -3);
        due.is(9, "-1 ahead of -3", x.years(61), -1);
        due.is(9, "961 still", x.count(2), 961);
        due.is(9, "till 999", x.years(38), 0);
        due.is(9, "no more", x.years(1), -3);
        // Who is pulled alike to both sides stays; an inlaw's slack does not pull.
        RubberBandsHoldFamilies y = Due.town("p10;p15;p20;b6901;b4001;b4012;");
        due.is(9, "nobody steps in the middle", y.person(1, 2) - y.person(1, 3), 0);
        due.is(9, "none snapped", y.years(1), 0);
        due.is(9, "the outer ones stepped", y.person(0, 0) * 100 + y.person(2, 0), 1119);
        // Tried ahead of the steps, too: 10 years old, a red one (figure 0) of stretch 2 has come to hold 1.
        RubberBandsHoldFamilies v = Due.town("p10;p10;b3001;y09;g112;");
        due.is(9, "worn out ahead of the step", v.years(1), 1);
        due.is(9, "in those years only", v.years(1), 0);
        due.is(9, "so nobody stepped", v.person(0, 0) * 100 + v.person(1, 0), 1012);
        // A step away from the one band can snap another: tried again behind the steps.
        RubberBandsHoldFamilies z = Due.town("p10;p13;p00;p23;b3001;b5002;b5013;");
        due.is(9, "the red one is torn", z.years(1), 1);
        due.is(9, "the steps were made", z.person(0, 0) * 100 + z.person(1, 0), 914);
        due.is(9, "both stung", z.person(0, 1) * 10 + z.person(1, 1), 11);
        // At once: a chain where each steps by what was ahead of the steps.
        RubberBandsHoldFamilies w = Due.town("p00;p04;p08;b5001;b5012;");
        due.is(9, "steps", w.years(1), 0);
        due.is(9, "the middle one stays", w.person(0, 0) * 10000 + w.person(1, 0) * 100 + w.person(2, 0), 10407);
    }

    private static void cuttings() {
        RubberBandsHoldFamilies x = Due.town("p00;p10;p30;b0001;b0002;b0001;");
        due.is(10, "no such band", x.cuts(3), -1);
        due.is(10, "no such band", x.cuts(-1), -1);
        due.is(10, "snapped already", x.cuts(1), -3);
        due.is(10, "all in all", x.cuts(0), 2);
        due.is(10, "cut already", x.cuts(0), -3);
        due.is(10, "all in all", x.cuts(2), 3);
        due.is(10, "stung by the snapping only", x.count(5), 2);
        due.is(10, "it pulls no more", x.count(6), 0);
    }
}
