/** The edges from CLANS to GENERATIONS, each beside the document's sentence that names it. */
public final class LooksEdgesTest {
    private static final Edges edge = new Edges();
    private static final int LEAST_BYTE = -128;
    private static final int LEAST_SHORT = -32768;
    private static final String SEVEN = "p00;p00;p00;p00;p00;p00;p00;";
    private static final String CHAIN = SEVEN + "b0001;b0012;b0023;b0034;b0045;b0056;";

    public static void main(String[] args) {
        clans();
        cousins();
        bridges();
        renewing();
        frosts();
        lurches();
        gauges();
        two();
        nights();
        means();
        farthest();
        forged();
        judged();
        generations();
        edge.end("LooksEdgesTest");
    }

    private static void clans() {
        edge.says("CLANS by BANDS not SNAPPED: how many; how many PEOPLE in the greatest.");
        clans("", 0, 0);
        clans("p30;", 1, 1);
        clans(SEVEN, 7, 1);
        clans(CHAIN, 1, 7);
        clans(CHAIN + "x2;", 2, 4);
        clans(CHAIN + "g630;", 2, 6);
        clans(SEVEN + "b0001;b0001;x0;", 6, 2);
        clans(SEVEN + "b0001;b0001;x0;x1;", 7, 1);
        clans(SEVEN + "b0056;b0061;b0023;b0034;b0042;", 3, 3);
    }

    private static void clans(String town, int howMany, int greatest) {
        edge.anew();
        if (!town.isEmpty()) {
            edge.more(town);
        }
        edge.asks("clans 0", howMany);
        edge.asks("clans 1", greatest);
    }

    private static void cousins() {
        edge.says("COUSINS: by how many BANDS, at fewest, one is tied to another one; -4.");
        edge.town("p00;p00;");
        edge.asks("cousins 0 1", -4);
        edge.town(CHAIN);
        edge.asks("cousins 0 1", 1);
        edge.asks("cousins 0 6", 6);
        edge.asks("cousins 6 0", 6);
        edge.asks("cousins 5 3", 2);
        edge.refused("cousins 3 3", -1);
        // By a shorter way, and without it again.
        edge.more("b0005;");
        edge.asks("cousins 0 6", 2);
        edge.due("cuts 6", 1);
        edge.asks("cousins 0 6", 6);
        edge.due("cuts 3", 2);
        edge.asks("cousins 0 6", -4);
        edge.asks("cousins 0 3", 3);
    }

    private static void bridges() {
        edge.says("BRIDGES: BANDS (bits, not SNAPPED) without which their ENDS would be in two CLANS.");
        edge.asks("bridges", 0);
        edge.town(CHAIN);
        edge.asks("bridges", 63);
        // A ring of all has none; without one of it all the others are.
        edge.more("b0060;");
        edge.asks("bridges", 0);
        edge.due("cuts 1", 1);
        edge.asks("bridges", 125);
        // Two round the same are none, one of them is one.
        edge.town(SEVEN + "b0012;b0021;");
        edge.asks("bridges", 0);
        edge.due("cuts 0", 1);
        edge.asks("bridges", 2);
        edge.due("cuts 1", 2);
        edge.asks("bridges", 0);
    }

    private static void renewing() {
        edge.says("RENEW: the BANDS (bits; n at most, n 0 .. 4, not SNAPPED) which, being of AGE 0, make the sum, over all not "
            + "SNAPPED, of HOLDS NOW less STRETCH greatest, of several the least bits; that.");
        edge.asks("renew 4 0", 0);
        edge.asks("renew 4 1", 0);
        edge.refusedOf("renew # 0", -1, -1, 5);
        edge.refusedOf("renew # 1", -1, -1, 5);
        // Behind 4 years nothing is gained by it: of several sets the least is none.
        edge.town("p00;p05;" + "b0001;".repeat(5) + "x4;");
        edge.more("g000;g100;y04;");
        edge.asks("renew 4 0", 0);
        edge.asks("renew 4 1", 32);
        // Behind 5 years each gains 1.
        edge.due("years 1", 0);
        edge.asks("renew 0 0", 0);
        edge.asks("renew 0 1", 28);
        edge.asks("renew 1 0", 1);
        edge.asks("renew 1 1", 29);
        edge.asks("renew 4 0", 15);
        edge.asks("renew 4 1", 32);
        edge.due("cuts 0", 2);
        edge.asks("renew 1 0", 2);
        edge.asks("renew 2 0", 6);
        edge.asks("renew 4 0", 14);
        edge.asks("renew 4 1", 24);
        // Five gain, and four at most are made new: those that gain the most.
        edge.town("p00;p00;b0001;y05;b0001;b0001;b0001;b0001;y05;");
        edge.asks("renew 4 0", 15);
        edge.asks("renew 1 0", 1);
        edge.asks("renew 3 1", 6 + 4 * 7 + 2 + 2);
        // Ten at once.
        edge.town("p00;p00;" + "b0001;".repeat(10) + "y05;");
        edge.asks("renew 4 0", 15);
        edge.asks("renew 4 1", 74);
        // HOLDS NOW is 0 at least, so the red one gains nothing in this cold, and the band 4.
        edge.town("p00;p00;b3001;b0001;y60;c9;");
        edge.asks("renew 0 1", 0);
        edge.asks("renew 1 0", 2);
        edge.asks("renew 2 0", 2);
        edge.asks("renew 2 1", 4);
        // Less their stretch.
        edge.town("p00;p05;b0001;b5001;");
        edge.asks("renew 0 1", 8 - 3 + 30 - 5);
    }

    private static void frosts() {
        edge.says("FROST: the least COLD (0 .. 9) at which, as all is, a BAND would be SNAPPED; that, of several the least; -4.");
        frost("", -4, -4);
        frost("p00;p10;", -4, -4);
        // By a stretch of 8 of 8, of 7, of 5, of 4.
        frost("p00;p10;b0001;", 2, 0);
        frost("p00;p09;b0001;", 4, 0);
        frost("p00;p07;b0001;", 8, 0);
        frost("p00;p06;b0001;", -4, -4);
        // As all is: in this cold, and as old as it is, it holds 7.
        frost("p00;p07;b0001;c7;", 8, 0);
        frost("p00;p00;b0001;y05;g106;", 8, 0);
        frost("p00;p00;b0001;y05;g109;", 2, 0);
        // Of several that are snapped at that cold the least, not one that is snapped in a greater cold.
        frost("p00;p10;p07;b0002;b0001;b0001;", 2, 1);
        frost("p00;p10;p07;b0002;b0001;b0001;x1;", 2, 2);
        frost("p00;p10;b0001;x0;", -4, -4);
    }

    private static void frost(String town, int cold, int which) {
        edge.anew();
        if (!town.isEmpty()) {
            edge.more(town);
        }
        edge.asks("frost 0", cold);
        edge.asks("frost 1", which);
    }

    private static void lurches() {
        edge.says("LURCH: a ROW tells of PEOPLE 0, 1, .. RIGHT less LEFT (the least number of the SORT is skipped; 7 at most): BANDS "
            + "(bits, not SNAPPED) without which, each by itself, all of it is so; how many.");
        edge.town("p00;p05;p10;b5001;b5012;b6902;b6902;x3;");
        lurch(2, 1, 10, -10, 0);
        lurch(1, 1, 0, 10, -10);
        lurch(4, 1, 10, 0, -10);
        // From now, whatever was asked meanwhile.
        edge.asks("placeIn 0 60", 5);
        edge.asks("lurch 0 0", 4);
        // Without two of them all would be so: that is not told.
        lurch(0, 0, 0, 0, 0);
        // Fewer numbers than people, or none at all.
        lurch(6, 2, 10);
        lurch(7, 3);
        lurch(0, 0, 11);
        edge.row(0, 0, 10, 0, -10, 0);
        edge.refused("lurch 0 0", -13);
        edge.row(0, 0, 10, 0, -10, LEAST_BYTE);
        edge.refused("lurch 0 0", -13);
        // What is skipped is told by the least number of that sort alone.
        lurch(7, 3, LEAST_BYTE, LEAST_BYTE, LEAST_BYTE);
        lurch(1, 1, LEAST_BYTE, 10, LEAST_BYTE);
        lurch(0, 0, LEAST_BYTE + 1);
        lurchBySort(1, LEAST_SHORT, 7);
        lurchBySort(1, LEAST_SHORT + 1, 0);
        lurchBySort(1, LEAST_BYTE, 0);
        lurchBySort(2, Edges.LEAST, 7);
        lurchBySort(2, Edges.LEAST + 1, 0);
        lurchBySort(2, LEAST_SHORT, 0);
        // All seven.
        edge.town(CHAIN);
        lurch(63, 6, 0, 0, 0, 0, 0, 0, 0);
        lurch(0, 0, 0, 0, 0, 0, 0, 0, 1);
        edge.row(0, 0, 0, 0, 0, 0, 0, 0, 0, 0);
        edge.refused("lurch 0 0", -13);
        edge.anew();
        lurch(0, 0);
    }

    private static void lurch(int bits, int howMany, int... told) {
        edge.row(0, 0, told);
        edge.asks("lurch 0 0", bits);
        edge.asks("lurch 0 1", howMany);
    }

    private static void lurchBySort(int sort, int told, int bits) {
        edge.row(0, sort, told);
        edge.asks("lurch 0 0", bits);
    }

    private static void gauges() {
        edge.says("GAUGES: a ROW tells PULL of a BAND, its ENDS 0, 1, .. apart (skipped likewise): KINDS (bits) with FIGURE f by "
            + "which it is so; how many.");
        // Nothing is told; nothing but that nobody pulls without being apart.
        gauges(255, 8, 0);
        gauges(255, 8, 0, 0);
        gauges(0, 0, 0, 1);
        gauges(32, 1, 0, 0, 2);
        gauges(8, 1, 0, 0, 1);
        gauges(128, 1, 0, 0, 4);
        gauges(2, 1, 0, 0, 0, 2);
        gauges(16, 1, 0, 0, 0, 3);
        gauges(0, 0, 0, 0, 0, 1);
        gauges(1, 1, 0, 0, 0, 0, 1);
        gauges(4, 1, 0, 0, 0, 0, 3);
        gauges(64, 1, 0, 0, 0, 0, 0, 0, 0, 0, 1);
        // With the greatest figure: red ones are slack till 9 apart.
        gauges(8, 1, 9, 0, 0, 0, 0, 0, 0, 0, 0, 0, 0, 1);
        // What is skipped is told by the least number of that sort alone.
        gauges(255, 8, 5, LEAST_BYTE, LEAST_BYTE, LEAST_BYTE);
        gauges(10, 2, 0, 0, LEAST_BYTE, 2);
        gauges(0, 0, 0, LEAST_BYTE + 1);
        gaugesBySort(1, LEAST_SHORT, 255);
        gaugesBySort(1, LEAST_SHORT + 1, 0);
        gaugesBySort(1, LEAST_BYTE, 0);
        gaugesBySort(2, Edges.LEAST, 255);
        gaugesBySort(2, Edges.LEAST + 1, 0);
        gaugesBySort(2, LEAST_SHORT, 0);
        // A whole row, farther apart than the town is wide; and its last number wrong.
        edge.anew();
        edge.due("row 0 1 100", 0);
        for (int apart = 0; apart < 100; apart++) {
            edge.due("put 0 " + apart + " " + 2 * apart, 0);
        }
        edge.asks("gauges 0 0 0", 32);
        edge.asks("gauges 0 0 1", 1);
        edge.due("put 0 99 197", 0);
        edge.asks("gauges 0 0 0", 0);
        edge.refusedOf("gauges 0 # 0", -1, -1, 10);
    }

    private static void gauges(int bits, int howMany, int figure, int... told) {
        edge.anew();
        edge.row(0, 0, told);
        edge.asks("gauges 0 " + figure + " 0", bits);
        edge.asks("gauges 0 " + figure + " 1", howMany);
    }

    private static void gaugesBySort(int sort, int told, int bits) {
        edge.anew();
        edge.row(0, sort, told);
        edge.asks("gauges 0 0 0", bits);
    }

    private static void two() {
        // What one wins or loses by a step, both lose by the pull alike: so there is always such a pair, and never -4.
        edge.says("TWO at unlike PLACES: each steps 1 PLACE away from the other (1) or not (0): who does has 3 (who would step below "
            + "0 or above 30 stays and has none), less all that BANDS round both PULL then: the first pair (10 the one's and the "
            + "other's) by which neither has more by another choice alone; -4.");
        two("p10;p20;", 11, 11);
        two("p10;p11;", 11, 11);
        // By a widow one loses 2 by a step, by twins 3, by a feud 4 and more than it holds.
        two("p10;p20;b5001;", 11, 11);
        two("p10;p20;b2001;", 0, 0);
        two("p10;p15;b7001;", 0, 0);
        two("p10;p20;b5001;b0010;", 0, 0);
        // The feud is slack till they are 2 apart: one of them may step.
        two("p10;p11;b7101;", 1, 1);
        two("p10;p12;b7101;", 0, 0);
        two("p11;p10;b7201;", 11, 11);
        two("p10;p11;b7101;b7101;", 1, 1);
        // Nobody steps below 0 or above 30, nor is anybody farther away by that.
        two("p00;p10;", 1, 10);
        two("p10;p00;", 10, 1);
        two("p10;p30;", 10, 1);
        two("p00;p30;", 0, 0);
        two("p01;p29;", 11, 11);
        two("p00;p02;b7101;", 0, 0);
        two("p00;p01;b7101;", 1, 10);
        // Bands to others, and those that are snapped, do not matter.
        two("p10;p11;p14;b7002;b7012;", 11, 11);
        two("p10;p15;b7001;x0;", 11, 11);
        edge.town("p10;p10;");
        edge.refused("two 0 1", -3);
        edge.refused("two 1 1", -1);
    }

    private static void two(String town, int answer, int theOtherWay) {
        edge.town(town);
        edge.asks("two 0 1", answer);
        edge.asks("two 1 0", theOtherWay);
    }

    private static void nights() {
        edge.says("NIGHT: each BAND not SNAPPED, by itself, perishes with odds 1 in t (2 .. 20): how likely two are in one CLAN still: "
            + "a fraction in least terms.");
        night("p00;p30;", 1, 20, 0, 1);
        night("p00;p00;b0001;x0;", 1, 2, 0, 1);
        night("p00;p00;b0001;", 1, 2, 1, 2);
        night("p00;p00;b0001;", 1, 20, 19, 20);
        night("p00;p00;b0001;b0001;", 1, 2, 3, 4);
        night("p00;p00;b0001;b0001;x0;", 1, 2, 1, 2);
        night(CHAIN, 2, 2, 1, 4);
        night(CHAIN, 6, 20, 47045881L, 64000000L);
        // What perishes elsewhere does not matter: in least terms.
        night(SEVEN + "b0001;" + "b0023;b0045;b0034;", 1, 2, 1, 2);
        night(SEVEN + "b0001;" + "b0023;b0045;b0034;", 1, 10, 9, 10);
        night(SEVEN + "b0001;" + "b0023;b0045;b0034;", 6, 10, 0, 1);
        // Two round the same, and one more; with one of three gone, the first or the last.
        night("p00;p00;p00;b0001;b0001;b0012;", 2, 3, 16, 27);
        night("p00;p00;p00;b0012;b0012;b0001;", 2, 3, 16, 27);
        night("p00;p00;b0001;b0001;b0001;x0;", 1, 3, 8, 9);
        night("p00;p00;b0001;b0001;b0001;x2;", 1, 3, 8, 9);
        // By either of two ways round a ring.
        night("p00;p00;p00;b0001;b0012;b0020;", 1, 2, 5, 8);
        // All ten, with the least odds.
        night("p00;p00;" + "b0001;".repeat(10), 1, 20, 10239999999999L, 10240000000000L);
        night("p00;p00;" + "b0001;".repeat(10), 1, 2, 1023, 1024);
        edge.refusedOf("night 0 1 # 0", 1000000001L, 1, 21);
    }

    private static void night(String town, int other, int t, long above, long below) {
        edge.town(town);
        edge.asks("night 0 " + other + " " + t + " 0", above);
        edge.asks("night " + other + " 0 " + t + " 1", below);
    }

    private static void means() {
        edge.says("MEAN STRETCH of all not SNAPPED: a fraction in least terms (0 by 1 of none).");
        mean("", 0, 1);
        mean("p00;p30;", 0, 1);
        mean("p00;p30;b0001;", 0, 1);
        mean("p00;p02;b0001;b0001;", 0, 1);
        mean("p00;p10;b0001;", 8, 1);
        mean("p00;p10;p02;b0001;b0002;", 4, 1);
        mean("p00;p10;p03;b0001;b0002;", 9, 2);
        mean("p00;p10;p03;b0001;b0002;b0002;", 10, 3);
        mean("p00;p10;p30;b0001;b0002;", 8, 1);
        mean("p00;p10;b0001;b0001;x1;", 8, 1);
        mean("p00;p03;p00;b0001;" + "b0002;".repeat(9), 1, 10);
    }

    private static void mean(String town, int above, int below) {
        edge.anew();
        if (!town.isEmpty()) {
            edge.more(town);
        }
        edge.asks("mean 0", above);
        edge.asks("mean 1", below);
    }

    private static void farthest() {
        edge.says("FARTHEST: the two (10 the lesser and the other) farthest apart, of several the first; -4; how far.");
        farthest("", -4, -4);
        farthest("p30;", -4, -4);
        farthest("p30;p30;", 1, 0);
        farthest("p00;p30;", 1, 30);
        farthest("p30;p00;", 1, 30);
        farthest("p30;p00;p30;p00;", 1, 30);
        farthest("p10;p20;p10;p21;p10;", 3, 11);
        farthest("p10;p10;p10;p10;p10;p10;p11;", 6, 1);
        farthest("p10;p10;p10;p10;p10;p09;p11;", 56, 2);
        farthest(SEVEN, 1, 0);
    }

    private static void farthest(String town, int which, int howFar) {
        edge.anew();
        if (!town.isEmpty()) {
            edge.more(town);
        }
        edge.asks("farthest 0", which);
        edge.asks("farthest 1", howFar);
    }

    private static void forged() {
        edge.says("FORGED: a ROW of pairs, one and a PLACE: so they GO one behind the other: the first pair by which a BAND is "
            + "SNAPPED; -4.");
        forged(-4);
        forged(-4, 0, 0, 1, 10);
        forged(0, 0, 30, 1, 30);
        forged(1, 0, 0, 1, 11);
        // Each goes from where the pairs ahead have left them.
        forged(-4, 0, 5, 1, 15, 0, 20, 1, 30);
        forged(2, 0, 20, 1, 30, 0, 10);
        forged(2, 0, 20, 1, 20, 1, 9, 0, 30);
        // Half a pair; nobody; nowhere; also behind a pair that would have been told. The least number is no such one here.
        forged(-13, 0);
        forged(-13, 0, 30, 0);
        forged(-13, 2, 10);
        forged(-13, -1, 10);
        forged(-13, 0, 31);
        forged(-13, 0, -1);
        forged(-13, 0, 30, 0, 31);
        forged(-13, LEAST_BYTE, 10);
        forged(-13, 0, LEAST_BYTE);
        // No pair at all, where one's going to either end of the town would be told.
        edge.town("p15;p15;b0001;");
        edge.row(0, 0);
        edge.asks("forged 0", -4);
        // As many pairs as a row has room for.
        edge.town("p10;p10;b0001;");
        edge.due("row 0 1 100", 0);
        for (int pair = 0; pair < 50; pair++) {
            edge.due("put 0 " + (2 * pair + 1) + " 10", 0);
        }
        edge.asks("forged 0", -4);
        edge.due("put 0 99 30", 0);
        edge.asks("forged 0", 49);
        edge.due("put 0 99 31", 0);
        edge.refused("forged 0", -13);
        // What is snapped already is not snapped by them.
        edge.due("put 0 99 30", 0);
        edge.due("cuts 0", 1);
        edge.asks("forged 0", -4);
    }

    /** Of two at 10 who may be 10 apart. */
    private static void forged(int first, int... told) {
        edge.town("p10;p10;b0001;");
        edge.row(0, 0, told);
        edge.asks("forged 0", first);
    }

    private static void judged() {
        edge.says("JUDGED: a ROW tells how many are SNAPPED behind 0, 1, .. YEARS: the first that is not so (skipped likewise); -4.");
        judged(-4, 0);
        judged(-4, 0, 1);
        judged(0, 0, 0);
        judged(0, 0, 2, 1, 1);
        judged(2, 0, 1, 1, 0, 0);
        // What is skipped is told by the least number of that sort alone.
        judged(-4, 0, LEAST_BYTE, 1, LEAST_BYTE);
        judged(3, 0, LEAST_BYTE, 1, LEAST_BYTE, 2);
        judged(0, 0, LEAST_BYTE + 1);
        judged(-4, 1, LEAST_SHORT);
        judged(0, 1, LEAST_SHORT + 1);
        judged(0, 1, LEAST_BYTE);
        judged(-4, 2, Edges.LEAST);
        judged(0, 2, Edges.LEAST + 1);
        judged(0, 2, LEAST_SHORT);
        // The red one snaps in the 15th year, though there is none to come in this town; the row tells of 99.
        edge.town("y60;".repeat(16) + "y39;p10;p11;b3001;b3001;x0;");
        edge.due("row 0 0 100", 0);
        for (int n = 0; n < 100; n++) {
            edge.due("put 0 " + n + " " + (n < 15 ? 1 : 2), 0);
        }
        edge.asks("judge 0", -4);
        edge.due("put 0 99 1", 0);
        edge.asks("judge 0", 99);
        edge.due("put 0 15 1", 0);
        edge.asks("judge 0", 15);
        edge.due("put 0 14 2", 0);
        edge.asks("judge 0", 14);
    }

    /** Of two that swap places, with a red one and a cut one. */
    private static void judged(int first, int sort, int... told) {
        edge.town("p10;p11;b3001;b3001;x0;");
        edge.row(0, sort, told);
        edge.asks("judge 0", first);
    }

    private static void generations() {
        edge.says("GENERATIONS with a seed z: n (1 .. 20), each from now: 10 times one, by a DRAW below as many as there are, GOES to "
            + "a PLACE by a DRAW below 31: BANDS SNAPPED by all; STUNG more together.");
        // 0 is gone from the others, and stung: what is left is a red one round 1 and 2.
        String town = "p10;p10;p10;b3001;b3012;b0002;b3001;g030;g010;";
        for (int n : new int[] {1, 2, 19, 20}) {
            edge.town(town);
            long[] harm = harm(n, 7, new int[] {1, 2, 3});
            edge.asks("generations " + n + " 7 0", harm[0]);
            edge.asks("generations " + n + " 7 1", harm[1]);
        }
        edge.refusedOf("generations # 7 0", -1, -1, 0, 21);
        // Who is alone goes as well, and nothing is snapped.
        edge.town("p10;");
        edge.asks("generations 20 7 0", 0);
        edge.asks("generations 20 7 1", 0);

        edge.says("A DRAW below n: z becomes z times 1103515245 plus 12345 (an int); (z without its sign's bit over 65536, cut) "
            + "modulo n.");
        for (int z : new int[] {0, 1, -1, 2, 65536, 1103515245, Edges.MOST, Edges.LEAST}) {
            edge.town("p10;p10;p10;b0001;b0912;b6902;");
            long[] harm = harm(20, z, new int[] {0, 1, 10}, new int[] {1, 2, 28});
            edge.asks("generations 20 " + z + " 0", harm[0]);
            edge.asks("generations 20 " + z + " 1", harm[1]);
        }
    }

    private static long drawn;

    /** A draw by longs, so that nothing of it is left to how an int wraps. */
    private static int draw(int n) {
        drawn = (drawn * 1103515245L + 12345L) % 4294967296L;
        return (int) (drawn % 2147483648L / 65536L % n);
    }

    private static void seed(int z) {
        drawn = z < 0 ? z + 4294967296L : z;
    }

    /** What n generations of three at 10 snap and sting; ties are two of them, and how far they may be apart. */
    private static long[] harm(int n, int z, int[]... ties) {
        seed(z);
        long[] harm = new long[2];
        for (int i = 0; i < n; i++) {
            live(ties, harm);
        }
        return harm;
    }

    private static void live(int[][] ties, long[] harm) {
        int[] place = new int[3];
        java.util.Arrays.fill(place, 10);
        boolean[] snapped = new boolean[ties.length];
        for (int k = 0; k < 10; k++) {
            int p = draw(3);
            place[p] = draw(31);
            for (int b = 0; b < ties.length; b++) {
                if (!snapped[b] && Math.abs(place[ties[b][0]] - place[ties[b][1]]) > ties[b][2]) {
                    snapped[b] = true;
                    harm[0]++;
                    harm[1] += 2;
                }
            }
        }
    }
}
