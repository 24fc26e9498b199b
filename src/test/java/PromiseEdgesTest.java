/** The 45 promises one by one, each with its edges and with what it refuses, in the order told there. */
public final class PromiseEdgesTest {
    private static final Edges edge = new Edges();
    private static final int[] NO_SHELVES = {-1, 8, Edges.LEAST, Edges.MOST};
    /** Whom and which there are not, where there are two people and one band. */
    private static final int[] NOT_OF_TWO = {-1, 2, 7, Edges.LEAST, Edges.MOST};
    private static final int[] NOT_OF_ONE = {-1, 1, 10, 31, 32, Edges.LEAST, Edges.MOST};
    private static final int[] NO_PLACES = {-1, 31, Edges.LEAST, Edges.MOST};
    private static final int[] NEITHER_0_NOR_1 = {-1, 2, Edges.LEAST, Edges.MOST};
    private static final String TWO = "p00;p10;b0001;";

    public static void main(String[] args) {
        aNewObject();
        townAndPerson();
        bandAndComes();
        tiesAndGoes();
        coldYearsCuts();
        whereOneMayGo();
        yearsOn();
        christmas();
        tangles();
        clans();
        bridgesToFrost();
        whatIsGone();
        nightToFarthest();
        told();
        generations();
        imageAndCount();
        keepAndRow();
        putAndElement();
        copies();
        costsAndTosses();
        edge.end("PromiseEdgesTest");
    }

    private static void aNewObject() {
        edge.says(1, "Nobody.");
        for (int what = 0; what <= 6; what++) {
            edge.asks("count " + what, 0);
        }
        edge.asks("person 0 0", -1);
        edge.asks("band 0 0", -1);
        edge.asks("clans 0", 0);
        edge.refused("restore", -3);
        for (int d = 0; d <= 7; d++) {
            edge.asks("cost " + d, -11);
        }
    }

    private static void townAndPerson() {
        edge.says(2, "The text in SHELF d: how many STATEMENTS; the FAULT. -1, -11, -12 (no ROW of bytes).");
        edge.refusedOf("town #", -1, NO_SHELVES);
        edge.refused("town 0", -11);
        edge.due("keep 0 1 0 0", 0);
        edge.refused("town 0", -12);
        edge.due("row 0 1 0", 0);
        edge.refused("town 0", -12);
        edge.due("row 0 2 0", 0);
        edge.refused("town 0", -12);
        edge.due("row 0 0 0", 0);
        edge.refused("town 0", -1000);
        edge.text(0, "p00;p99;");
        edge.refused("town 0", -2004);
        edge.text(0, "p00;p09;c1;");
        edge.due("town 0", 3);

        edge.says(3, "Of one: PLACE (what 0), STUNG (1), pulled LEFT (2), RIGHT (3). -1.");
        edge.town("p00;p10;b0001;b0301;g111;");
        int[] zero = {0, 1, 0, 6};
        int[] one = {11, 1, 6, 0};
        for (int what = 0; what <= 3; what++) {
            edge.asks("person 0 " + what, zero[what]);
            edge.asks("person 1 " + what, one[what]);
        }
        edge.refusedOf("person # 0", -1, NOT_OF_TWO);
        edge.refusedOf("person 0 #", -1, -1, 4, Edges.LEAST, Edges.MOST);
    }

    private static void bandAndComes() {
        edge.says(4, "Of a BAND: KIND (what 0), FIGURE (1), its ENDS (2, 3), AGE (4), SNAPPED (5: 1, 0), STRETCH (6), PULL (7), HOLDS "
            + "NOW (8). -1.");
        edge.town("p00;p10;b1310;y05;c3;g000;g109;");
        int[] of = {1, 3, 1, 0, 5, 0, 7, 14, 13};
        for (int what = 0; what <= 8; what++) {
            edge.asks("band 0 " + what, of[what]);
        }
        edge.due("cuts 0", 1);
        edge.asks("band 0 5", 1);
        edge.refusedOf("band # 0", -1, NOT_OF_ONE);
        edge.refusedOf("band 0 #", -1, -1, 9, Edges.LEAST, Edges.MOST);

        edge.says(5, "One more at a PLACE: the number. -1, -2.");
        edge.refusedOf("comes #", -1, NO_PLACES);
        for (int p = 0; p <= 6; p++) {
            edge.due("comes " + 5 * p, p);
        }
        edge.refused("comes 0", -2);
        edge.refused("comes 31", -1);
    }

    private static void tiesAndGoes() {
        edge.says(6, "The one on SHELF d is put round two, then all are TRIED: its number. -1 (one twice), -11, -12 (a ROW), -2.");
        edge.town("p00;p11;");
        edge.due("keep 0 1 0 0", 0);
        edge.due("keep 1 1 0 1", 0);
        edge.due("row 2 0 1", 0);
        edge.due("ties 0 0 1", 0);
        edge.asks("band 0 5", 1);
        edge.asks("count 5", 2);
        edge.due("ties 1 1 0", 1);
        edge.asks("band 1 5", 0);
        edge.refusedOf("ties # 0 1", -1, NO_SHELVES);
        edge.refusedOf("ties 0 # 1", -1, NOT_OF_TWO);
        edge.refusedOf("ties 0 0 #", -1, NOT_OF_TWO);
        edge.refused("ties 0 0 0", -1);
        edge.refused("ties 3 1 1", -1);
        edge.refused("ties 2 1 1", -1);
        edge.refused("ties 3 0 1", -11);
        edge.refused("ties 2 0 1", -12);
        for (int b = 2; b <= 9; b++) {
            edge.due("ties 1 0 1", b);
        }
        edge.refused("ties 1 0 1", -2);
        edge.refused("ties 2 0 1", -12);
        edge.refused("ties 3 0 1", -11);
        edge.refused("ties 1 0 0", -1);

        edge.says(7, "One GOES to a PLACE: how many are SNAPPED by it. -1.");
        edge.town("p10;p10;p15;b0001;b0002;");
        edge.refusedOf("goes # 0", -1, -1, 3, 7, Edges.LEAST, Edges.MOST);
        edge.refusedOf("goes 0 #", -1, NO_PLACES);
        edge.due("goes 0 5", 0);
        edge.due("goes 0 4", 1);
        edge.due("goes 0 0", 0);
        edge.due("goes 1 30", 1);
        edge.due("goes 2 30", 0);
        edge.town("p10;p10;p15;b0001;b0002;");
        edge.due("goes 0 30", 2);
    }

    private static void coldYearsCuts() {
        edge.says(8, "COLD becomes v, then all are TRIED: how many are SNAPPED by it. -1.");
        edge.town("p00;p10;p08;b0001;b0002;b0010;");
        edge.refusedOf("cold #", -1, -1, 10, Edges.LEAST, Edges.MOST);
        edge.due("cold 1", 0);
        edge.due("cold 2", 2);
        edge.due("cold 2", 0);
        edge.due("cold 9", 1);
        edge.due("cold 0", 0);
        edge.asks("count 4", 7);

        edge.says(9, "n YEARS (1 .. 60) go by: how many are SNAPPED in them. -1, -3 YEAR above 999.");
        edge.refusedOf("years #", -1, -1, 0, 61, Edges.LEAST, Edges.MOST);
        // By the first trying of a year, by the second one, and none.
        edge.town("p10;p10;p00;p20;p25;p25;b3001;b3045;y09;g111;g527;b5002;b5013;b6901;x4;");
        edge.due("years 1", 2);
        edge.due("years 60", 0);
        edge.town("p10;p11;b3001;");
        edge.due("years 14", 0);
        edge.due("years 1", 1);
        edge.town("p10;p11;b3001;");
        edge.due("years 60", 1);
        for (int i = 0; i < 15; i++) {
            edge.due("years 60", 0);
        }
        edge.refused("years 40", -3);
        edge.refused("years 61", -1);
        edge.due("years 39", 0);
        edge.refused("years 1", -3);
        edge.refused("years 0", -1);

        edge.says(10, "A BAND is cut: how many are SNAPPED in all. -1, -3 it is SNAPPED.");
        edge.town("p00;p10;p30;b0001;b0002;b0001;");
        edge.refusedOf("cuts #", -1, -1, 3, 10, 31, 32, Edges.LEAST, Edges.MOST);
        edge.refused("cuts 1", -3);
        edge.due("cuts 0", 2);
        edge.refused("cuts 0", -3);
        edge.due("cuts 2", 3);
        edge.asks("count 5", 2);
    }

    private static void whereOneMayGo() {
        edge.says(11, "MAY GO: the least (what 0), the greatest (1). -1.");
        edge.town("p12;p15;b0001;");
        edge.asks("mayGo 0 0", 5);
        edge.asks("mayGo 0 1", 25);
        edge.refusedOf("mayGo # 0", -1, NOT_OF_TWO);
        edge.refusedOf("mayGo 0 #", -1, NEITHER_0_NOR_1);

        edge.says(12, "REST. -1.");
        edge.town("p00;p20;b5001;");
        edge.asks("rest 0", 20);
        edge.asks("rest 1", 0);
        edge.refusedOf("rest #", -1, NOT_OF_TWO);
    }

    private static void yearsOn() {
        edge.says(13, "PLACE n YEARS on. -1.");
        edge.town("p00;p10;b0001;");
        edge.asks("placeIn 0 0", 0);
        edge.asks("placeIn 0 3", 3);
        edge.asks("placeIn 1 60", 6);
        edge.refusedOf("placeIn # 0", -1, NOT_OF_TWO);
        edge.refusedOf("placeIn 0 #", -1, -1, 61, Edges.LEAST, Edges.MOST);

        edge.says(14, "SNAPPED n YEARS on (bits). -1.");
        edge.town("p10;p11;b6901;b3001;");
        edge.asks("snappedIn 0", 0);
        edge.asks("snappedIn 14", 0);
        edge.asks("snappedIn 15", 2);
        edge.asks("snappedIn 60", 2);
        edge.refusedOf("snappedIn #", -1, -1, 61, Edges.LEAST, Edges.MOST);

        edge.says(15, "STILL; -4.");
        edge.asks("still", 0);
        edge.town("p10;p13;b0001;");
        edge.asks("still", 1);
        edge.town("p10;p11;b5001;");
        edge.asks("still", -4);

        edge.says(16, "FIRST SNAP: the YEAR (what 0; -4), the one (1; -4). -1.");
        edge.asks("firstSnap 0", -4);
        edge.asks("firstSnap 1", -4);
        edge.refusedOf("firstSnap #", -1, NEITHER_0_NOR_1);
        edge.town("p10;p11;b6901;b3001;");
        edge.asks("firstSnap 0", 15);
        edge.asks("firstSnap 1", 1);
        edge.refusedOf("firstSnap #", -1, NEITHER_0_NOR_1);
    }

    private static void christmas() {
        edge.says(17, "CHRISTMAS: the PLACE (what 0), how far (1), how many SNAPPED (2). -1.");
        edge.refusedOf("christmas #", -1, -1, 3, Edges.LEAST, Edges.MOST);
        edge.town("p10;p00;p20;p20;p20;b0001;");
        edge.asks("christmas 0", 20);
        edge.asks("christmas 1", 30);
        edge.asks("christmas 2", 1);
        edge.refusedOf("christmas #", -1, -1, 3, Edges.LEAST, Edges.MOST);

        edge.says(18, "ORDER: how many (i -1), the i-th one. -1 (i below -1, no such one).");
        edge.asks("order -1", 0);
        edge.refusedOf("order #", -1, -2, 0, 1, Edges.LEAST, Edges.MOST);
        edge.town("p10;p00;p20;p20;p20;b0001;");
        edge.asks("order -1", 0);
        edge.asks("order 0", 1);
        edge.asks("order 1", 0);
        edge.asks("order 4", 4);
        edge.refusedOf("order #", -1, -2, 5, 7, 128, Edges.LEAST, Edges.MOST);

        edge.says(19, "LET GO (bits). -1.");
        edge.town("p10;p20;b0001;");
        edge.asks("letGo 0 30", 0);
        edge.asks("letGo 0 9", 1);
        edge.refusedOf("letGo # 0", -1, NOT_OF_TWO);
        edge.refusedOf("letGo 0 #", -1, NO_PLACES);
    }

    private static void tangles() {
        edge.says(20, "CROSSING: how many (what 0), the first (1; -4). -1.");
        edge.asks("crossing 0", 0);
        edge.asks("crossing 1", -4);
        edge.refusedOf("crossing #", -1, NEITHER_0_NOR_1);
        edge.town("p00;p05;p10;p15;b6901;b6902;b6913;");
        edge.asks("crossing 0", 1);
        edge.asks("crossing 1", 12);
        edge.refusedOf("crossing #", -1, NEITHER_0_NOR_1);

        edge.says(21, "UNTANGLE (bits).");
        edge.asks("untangle", 0);
        edge.town("p00;p05;p10;p15;b6901;b6902;b6913;");
        edge.asks("untangle", 2);
    }

    private static void clans() {
        edge.says(22, "CLANS: how many (what 0), the greatest (1). -1.");
        edge.asks("clans 0", 0);
        edge.asks("clans 1", 0);
        edge.refusedOf("clans #", -1, NEITHER_0_NOR_1);
        edge.town("p00;p00;p00;b0001;");
        edge.asks("clans 0", 2);
        edge.asks("clans 1", 2);
        edge.refusedOf("clans #", -1, NEITHER_0_NOR_1);

        edge.says(23, "COUSINS; -4. -1 (one twice).");
        edge.town(TWO);
        edge.asks("cousins 0 1", 1);
        edge.refusedOf("cousins # 1", -1, NOT_OF_TWO);
        edge.refusedOf("cousins 0 #", -1, NOT_OF_TWO);
        edge.refused("cousins 0 0", -1);
        edge.refused("cousins 1 1", -1);
        edge.due("cuts 0", 1);
        edge.asks("cousins 0 1", -4);
    }

    private static void bridgesToFrost() {
        edge.says(24, "BRIDGES (bits).");
        edge.asks("bridges", 0);
        edge.town("p00;p00;p00;b0001;b0012;b0012;");
        edge.asks("bridges", 1);

        edge.says(25, "RENEW: bits (what 0), that (1). -1.");
        edge.asks("renew 0 0", 0);
        edge.asks("renew 4 1", 0);
        edge.refusedOf("renew # 0", -1, -1, 5, Edges.LEAST, Edges.MOST);
        edge.refusedOf("renew 0 #", -1, NEITHER_0_NOR_1);
        edge.town("p00;p00;b0001;b0001;b0001;b0001;b0001;y05;");
        edge.asks("renew 3 0", 7);
        edge.asks("renew 3 1", 38);
        edge.refusedOf("renew # 1", -1, -1, 5, Edges.LEAST, Edges.MOST);

        edge.says(26, "FROST: COLD (what 0; -4), which (1; -4). -1.");
        edge.asks("frost 0", -4);
        edge.asks("frost 1", -4);
        edge.refusedOf("frost #", -1, NEITHER_0_NOR_1);
        edge.town("p00;p09;p10;b0001;b0002;");
        edge.asks("frost 0", 2);
        edge.asks("frost 1", 1);
        edge.refusedOf("frost #", -1, NEITHER_0_NOR_1);
    }

    private static void whatIsGone() {
        edge.says(27, "LURCH by the ROW in SHELF d: bits (what 0), how many (1). -1, -11, -12 (no ROW), -13 more numbers than PEOPLE.");
        edge.town("p00;p10;b5001;b0001;");
        edge.row(0, 2, 8, -8);
        edge.asks("lurch 0 0", 1);
        edge.asks("lurch 0 1", 1);
        edge.row(0, 0, 8, -8, 0);
        edge.refused("lurch 0 0", -13);
        edge.refused("lurch 0 1", -13);
        edge.refusedOf("lurch 0 #", -1, NEITHER_0_NOR_1);
        edge.refusedOf("lurch # 0", -1, NO_SHELVES);
        edge.refused("lurch 1 0", -11);
        edge.refused("lurch 1 2", -1);
        edge.due("keep 1 1 0 0", 0);
        edge.refused("lurch 1 0", -12);
        edge.refused("lurch 1 2", -1);
        edge.anew();
        edge.due("row 0 0 1", 0);
        edge.refused("lurch 0 0", -13);

        edge.says(28, "GAUGES by the ROW in SHELF d: bits (what 0), how many (1). -1, -11, -12.");
        edge.row(0, 0, 0, 0, 2);
        edge.asks("gauges 0 0 0", 2);
        edge.asks("gauges 0 0 1", 1);
        edge.asks("gauges 0 9 0", 0);
        edge.refusedOf("gauges 0 # 0", -1, -1, 10, Edges.LEAST, Edges.MOST);
        edge.refusedOf("gauges 0 0 #", -1, NEITHER_0_NOR_1);
        edge.refusedOf("gauges # 0 0", -1, NO_SHELVES);
        edge.refused("gauges 1 0 0", -11);
        edge.refused("gauges 1 10 0", -1);
        edge.due("keep 1 1 0 0", 0);
        edge.refused("gauges 1 0 0", -12);
        edge.refused("gauges 1 0 2", -1);

        edge.says(29, "TWO; -4. -1 (one twice), -3 they are at one PLACE.");
        edge.town("p10;p20;p20;");
        edge.asks("two 0 1", 11);
        edge.refused("two 1 2", -3);
        edge.refused("two 1 1", -1);
        edge.refusedOf("two # 1", -1, -1, 3, Edges.LEAST, Edges.MOST);
        edge.refusedOf("two 1 #", -1, -1, 3, Edges.LEAST, Edges.MOST);
    }

    private static void nightToFarthest() {
        edge.says(30, "NIGHT; part 0 above, 1 below the line. Refused as told: -1 (one twice).");
        edge.town(TWO);
        edge.asks("night 0 1 2 0", 1);
        edge.asks("night 0 1 2 1", 2);
        edge.asks("night 1 0 20 0", 19);
        edge.asks("night 1 0 20 1", 20);
        edge.refused("night 0 0 2 0", 1000000001L);
        edge.refusedOf("night # 1 2 0", 1000000001L, NOT_OF_TWO);
        edge.refusedOf("night 0 # 2 0", 1000000001L, NOT_OF_TWO);
        edge.refusedOf("night 0 1 # 0", 1000000001L, -2, 0, 1, 21, Edges.LEAST, Edges.MOST);
        edge.refusedOf("night 0 1 2 #", 1000000001L, NEITHER_0_NOR_1);

        edge.says(31, "MEAN STRETCH; part likewise. Refused as told: -1.");
        edge.asks("mean 0", 0);
        edge.asks("mean 1", 1);
        edge.refusedOf("mean #", 1000000001L, NEITHER_0_NOR_1);
        edge.town("p00;p10;p03;b0001;b0002;");
        edge.asks("mean 0", 9);
        edge.asks("mean 1", 2);
        edge.refusedOf("mean #", 1000000001L, NEITHER_0_NOR_1);

        edge.says(32, "FARTHEST (what 0; -4), how far (1; -4). -1.");
        edge.asks("farthest 0", -4);
        edge.asks("farthest 1", -4);
        edge.refusedOf("farthest #", -1, NEITHER_0_NOR_1);
        edge.town("p00;p10;p30;");
        edge.asks("farthest 0", 2);
        edge.asks("farthest 1", 30);
        edge.refusedOf("farthest #", -1, NEITHER_0_NOR_1);
    }

    private static void told() {
        edge.says(33, "FORGED by the ROW in SHELF d; -4. -1, -11, -12 (no ROW), -13 (unwhole, no such one, no such PLACE).");
        edge.town(TWO);
        edge.row(0, 0, 0, 1, 1, 12);
        edge.asks("forged 0", 1);
        edge.row(0, 1, 0, 1, 1, 11);
        edge.asks("forged 0", -4);
        edge.row(0, 2, 1, 30);
        edge.asks("forged 0", 0);
        edge.refusedOf("forged #", -1, NO_SHELVES);
        edge.refused("forged 1", -11);
        edge.due("keep 1 1 0 0", 0);
        edge.refused("forged 1", -12);
        edge.row(0, 2, 1, 30, 0);
        edge.refused("forged 0", -13);
        for (int nobody : NOT_OF_TWO) {
            edge.row(0, 2, 1, 30, nobody, 0);
            edge.refused("forged 0", -13);
        }
        for (int nowhere : NO_PLACES) {
            edge.row(0, 2, 1, 30, 0, nowhere);
            edge.refused("forged 0", -13);
        }

        edge.says(34, "JUDGED by the ROW in SHELF d; -4. -1, -11, -12.");
        edge.town(TWO);
        edge.row(0, 0, 0, 0, 1);
        edge.asks("judge 0", 2);
        edge.row(0, 1, 0, 0);
        edge.asks("judge 0", -4);
        edge.row(0, 2, -1);
        edge.asks("judge 0", 0);
        edge.refusedOf("judge #", -1, NO_SHELVES);
        edge.refused("judge 1", -11);
        edge.due("keep 1 1 0 0", 0);
        edge.refused("judge 1", -12);
    }

    private static void generations() {
        edge.says(35, "GENERATIONS: SNAPPED (what 0), STUNG (1). -1, -3 nobody.");
        edge.refused("generations 1 1 0", -3);
        edge.refused("generations 20 1 1", -3);
        edge.refusedOf("generations # 1 0", -1, -1, 0, 21, Edges.LEAST, Edges.MOST);
        edge.refusedOf("generations 1 1 #", -1, NEITHER_0_NOR_1);
        // In each of twenty generations somebody goes too far for the red one.
        edge.town("p00;p00;b6901;b3001;");
        edge.asks("generations 1 0 0", 1);
        edge.asks("generations 1 0 1", 2);
        edge.asks("generations 20 0 0", 20);
        edge.asks("generations 20 0 1", 40);
        edge.refusedOf("generations # 1 0", -1, -1, 0, 21, Edges.LEAST, Edges.MOST);
        edge.refusedOf("generations 1 1 #", -1, NEITHER_0_NOR_1);
    }

    private static void imageAndCount() {
        edge.says(36, "THE IMAGE is taken: YEAR.");
        edge.due("image", 0);
        edge.due("years 60", 0);
        edge.due("image", 60);
        edge.due("years 1", 0);
        edge.due("restore", 60);

        edge.says(37, "THE IMAGE is RESTORED: YEAR. -3 there is none.");
        edge.refused("restore", -3);
        edge.due("comes 3", 0);
        edge.refused("restore", -3);
        edge.due("image", 0);
        edge.due("goes 0 9", 0);
        edge.due("restore", 0);
        edge.due("restore", 0);
        edge.asks("person 0 0", 3);

        edge.says(38, "0 PEOPLE, 1 BANDS, 2 YEAR, 3 COLD, 4 SNAPPED ones (bits), 5 all STUNG, 6 all PULL; -1 for others.");
        edge.town("p00;p11;p10;p08;b0001;b0002;x1;b0002;b5003;c1;y01;");
        int[] of = {4, 4, 1, 1, 3, 2, 18};
        for (int what = 0; what <= 6; what++) {
            edge.asks("count " + what, of[what]);
        }
        edge.refusedOf("count #", -1, -1, 7, Edges.LEAST, Edges.MOST);
        edge.town("p00;p10;" + "b0001;".repeat(10));
        edge.asks("count 6", 80);
        edge.due("goes 0 30", 10);
        edge.asks("count 4", 1023);
        edge.asks("count 5", 20);
        edge.asks("count 6", 0);
    }

    private static void keepAndRow() {
        edge.says(39, "SHELF d gets: what = 0 nothing (the others do not matter); 1 a KIND of BAND of KIND k with a FIGURE: 0. -1.");
        edge.due("keep 0 1 0 0", 0);
        edge.asks("cost 0", 2);
        edge.due("keep 0 1 7 9", 0);
        edge.asks("cost 0", 10);
        edge.refusedOf("keep # 1 0 0", -1, NO_SHELVES);
        edge.refusedOf("keep # 0 0 0", -1, NO_SHELVES);
        edge.refusedOf("keep 0 # 0 0", -1, NEITHER_0_NOR_1);
        edge.refusedOf("keep 0 1 # 0", -1, -1, 8, Edges.LEAST, Edges.MOST);
        edge.refusedOf("keep 0 1 0 #", -1, -1, 10, Edges.LEAST, Edges.MOST);
        edge.asks("cost 0", 10);
        edge.due("keep 0 0 8 10", 0);
        edge.asks("cost 0", -11);
        edge.due("keep 0 0 -1 -1", 0);
        edge.due("row 0 0 5", 0);
        edge.due("keep 0 0 " + Edges.LEAST + " " + Edges.MOST, 0);
        edge.asks("judge 0", -11);

        edge.says(40, "SHELF d gets a ROW of a SORT: 0. -1 (n above 100); -14.");
        edge.due("row 0 0 0", 0);
        edge.due("row 7 2 100", 0);
        edge.due("put 7 99 1", 0);
        edge.refusedOf("row # 0 1", -1, NO_SHELVES);
        edge.refusedOf("row 7 # 1", -1, -1, 3, Edges.LEAST, Edges.MOST);
        edge.refusedOf("row 7 0 #", -1, 101, Edges.MOST);
        edge.refusedOf("row 7 0 #", -14, -1, Edges.LEAST);
        edge.refused("row 8 0 -1", -1);
        edge.refused("row 7 3 -1", -1);
        edge.asks("element 7 99", 1);
        edge.due("keep 1 1 0 0", 0);
        edge.due("row 1 1 1", 0);
        edge.asks("cost 1", -12);
    }

    private static void putAndElement() {
        edge.says(41, "Element i of the ROW becomes v: 0. -1, -11, -12, -13.");
        edge.refusedOf("put # 0 0", -1, NO_SHELVES);
        edge.refused("put 0 0 0", -11);
        edge.refused("put 0 -1 0", -11);
        edge.due("keep 0 1 0 0", 0);
        edge.refused("put 0 0 0", -12);
        edge.refused("put 0 -1 0", -12);
        edge.due("row 0 2 2", 0);
        edge.refusedOf("put 0 # 1", -13, -1, 2, Edges.LEAST, Edges.MOST);
        edge.due("put 0 0 " + Edges.LEAST, 0);
        edge.due("put 0 1 " + Edges.MOST, 0);
        edge.asks("element 0 0", Edges.LEAST);
        edge.asks("element 0 1", Edges.MOST);
        edge.due("put 0 0 5", 0);
        edge.asks("element 0 0", 5);

        edge.says(42, "Element i of the ROW. IllegalArgumentException: no such SHELF; IllegalStateException: no ROW, no such place.");
        for (int d : NO_SHELVES) {
            edge.asks("element " + d + " 0", Calls.NO_SHELF);
            edge.asks("element " + d + " -1", Calls.NO_SHELF);
        }
        edge.asks("element 0 0", Calls.NO_PLACE);
        edge.due("keep 0 1 0 0", 0);
        edge.asks("element 0 0", Calls.NO_PLACE);
        edge.due("row 0 1 2", 0);
        edge.asks("element 0 0", 0);
        edge.asks("element 0 1", 0);
        edge.due("put 0 1 -5", 0);
        edge.asks("element 0 1", -5);
        for (int i : new int[] {-1, 2, 100, Edges.LEAST, Edges.MOST}) {
            edge.asks("element 0 " + i, Calls.NO_PLACE);
        }
        edge.due("row 0 1 0", 0);
        edge.asks("element 0 0", Calls.NO_PLACE);
    }

    private static void copies() {
        edge.says(43, "n elements of the ROW in SHELF d from i on come to that in SHELF e from j on: n. -1, -11 (either), -12 (no ROWS "
            + "of one SORT), -13 (n below 0, too).");
        edge.row(0, 0, 1, 2, 3);
        edge.row(1, 0, 7, 8);
        edge.due("copy 0 0 1 0 0", 0);
        edge.due("copy 0 3 1 2 0", 0);
        edge.asks("element 1 0", 7);
        edge.due("copy 0 1 1 0 2", 2);
        edge.asks("element 1 0", 2);
        edge.asks("element 1 1", 3);
        edge.asks("element 0 1", 2);
        edge.due("copy 1 0 0 0 2", 2);
        edge.asks("element 0 0", 2);
        edge.asks("element 0 2", 3);
        edge.refused("copy 0 0 1 0 3", -13);
        edge.refused("copy 1 0 0 0 3", -13);
        edge.refused("copy 0 2 1 0 2", -13);
        edge.refused("copy 0 0 1 1 2", -13);
        edge.refused("copy 0 4 1 0 0", -13);
        edge.refused("copy 0 0 1 3 0", -13);
        edge.refusedOf("copy 0 # 1 0 1", -13, -1, 3, Edges.LEAST, Edges.MOST);
        edge.refusedOf("copy 0 0 1 # 1", -13, -1, 2, Edges.LEAST, Edges.MOST);
        edge.refusedOf("copy 0 0 1 0 #", -13, -1, 3, Edges.LEAST, Edges.MOST);
        // Sums that wrap around.
        edge.refused("copy 0 " + Edges.MOST + " 1 0 " + Edges.MOST, -13);
        edge.refused("copy 0 1 1 1 " + Edges.MOST, -13);
        edge.refused("copy 0 -1 1 -1 1", -13);
        edge.refusedOf("copy # 0 1 0 0", -1, NO_SHELVES);
        edge.refusedOf("copy 0 0 # 0 0", -1, NO_SHELVES);
        edge.due("row 2 1 2", 0);
        edge.due("keep 3 1 0 0", 0);
        edge.refused("copy 0 0 2 0 1", -12);
        edge.refused("copy 2 0 0 0 1", -12);
        edge.refused("copy 0 0 3 0 1", -12);
        edge.refused("copy 3 0 0 0 1", -12);
        edge.refused("copy 3 0 3 0 1", -12);
        edge.refused("copy 0 0 2 0 -1", -12);
        edge.refused("copy 4 0 0 0 1", -11);
        edge.refused("copy 0 0 4 0 1", -11);
        edge.refused("copy 3 0 4 0 -1", -11);
        edge.refused("copy 4 0 3 0 -1", -11);
        // A whole row onto another one, and onto itself.
        edge.due("row 5 2 100", 0);
        edge.due("row 6 2 100", 0);
        edge.due("put 5 99 9", 0);
        edge.due("copy 5 0 6 0 100", 100);
        edge.asks("element 6 99", 9);
        edge.due("copy 5 0 5 0 100", 100);
        edge.due("copy 5 1 5 0 99", 99);
        edge.asks("element 5 98", 9);
        // Onto itself to the right: what was there ahead of it comes, not what it has brought.
        edge.row(7, 0, 1, 2, 3);
        edge.due("copy 7 0 7 1 2", 2);
        edge.asks("element 7 0", 1);
        edge.asks("element 7 1", 1);
        edge.asks("element 7 2", 2);
        edge.refused("copy 5 0 6 0 101", -13);
        edge.refused("copy 5 1 6 0 100", -13);
    }

    private static void costsAndTosses() {
        edge.says(44, "COST of the one on SHELF d: BAND 2; MARRIAGE FIGURE more; TWINS twice a MARRIAGE's; RED 1; KNOT 3 more than a "
            + "BAND's; WIDOW a MARRIAGE's less 2; INLAW 5 more than a BAND's; FEUD FIGURE more than a RED's. -1, -11, -12 (a ROW).");
        int[] of0 = {2, 2, 4, 1, 5, 0, 7, 1};
        int[] of1 = {2, 3, 6, 1, 5, 1, 7, 2};
        int[] of9 = {2, 11, 22, 1, 5, 9, 7, 10};
        byKinds("cost 0", 0, of0);
        byKinds("cost 0", 1, of1);
        byKinds("cost 0", 9, of9);
        edge.refusedOf("cost #", -1, NO_SHELVES);
        edge.refused("cost 1", -11);
        edge.due("row 1 0 0", 0);
        edge.refused("cost 1", -12);

        edge.says(45, "The FAILURE of the one on SHELF d is thrown, and caught: its FIGURE; of MARRIAGES 100 more (of those under them, "
            + "too); of TWINS 200 plus their COST, in place of all that (FIGURE, too). -1, -11, -12 (a ROW); -15: RED ones, FEUDS, and "
            + "any with FIGURE 0, have none.");
        int[] none = {-15, -15, -15, -15, -15, -15, -15, -15};
        int[] tossed1 = {1, 101, 206, -15, 1, 101, 1, -15};
        int[] tossed9 = {9, 109, 222, -15, 9, 109, 9, -15};
        byKinds("toss 0", 0, none);
        byKinds("toss 0", 1, tossed1);
        byKinds("toss 0", 9, tossed9);
        edge.refusedOf("toss #", -1, NO_SHELVES);
        edge.refused("toss 1", -11);
        edge.due("row 1 0 0", 0);
        edge.refused("toss 1", -12);
    }

    private static void byKinds(String call, int figure, int[] want) {
        for (int kind = 0; kind <= 7; kind++) {
            edge.due("keep 0 1 " + kind + " " + figure, 0);
            edge.asks(call, want[kind]);
        }
    }
}
