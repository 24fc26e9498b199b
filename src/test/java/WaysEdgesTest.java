/** The edges from MAY GO to UNTANGLE, each beside the document's sentence that names it. */
public final class WaysEdgesTest {
    private static final Edges edge = new Edges();

    /** 0 and 1 by a red one, 0 pulled away by 2, 1 by 3: it is torn in the first year. */
    private static final String TORN = "p10;p13;p00;p23;b3001;b5002;b5013;";
    /** Four widows of odd distances go to and fro till a marriage breaks in the 60th year: they rest behind 62 years. */
    private static final String LONG = "p00;p01;p09;p08;p02;p07;b5001;b5023;b5004;b5025;b1154;b2250;b2242;";

    public static void main(String[] args) {
        mayGo();
        rests();
        yearsOn();
        stillness();
        firstSnaps();
        christmas();
        orders();
        lettingGo();
        crossings();
        untangling();
        edge.end("WaysEdgesTest");
    }

    private static void mayGo() {
        edge.says("MAY GO: the least and the greatest PLACE one may go to STEP by STEP without a BAND being SNAPPED by it (all "
            + "others stay).");
        // Who is free may go from end to end.
        edge.town("p12;p00;p30;");
        for (int p = 0; p <= 2; p++) {
            edge.asks("mayGo " + p + " 0", 0);
            edge.asks("mayGo " + p + " 1", 30);
        }
        // As far as the band holds, 10 apart, and no place farther.
        edge.town("p12;p15;p20;b0001;b0012;");
        edge.asks("mayGo 0 0", 5);
        edge.asks("mayGo 0 1", 25);
        edge.asks("letGo 0 5", 0);
        edge.asks("letGo 0 4", 1);
        // Between two: the nearer ends of both.
        edge.asks("mayGo 1 0", 10);
        edge.asks("mayGo 1 1", 22);
        // Who is at the end of it already; the end of the town ahead of the end of the band.
        edge.town("p05;p15;b0001;");
        edge.asks("mayGo 0 0", 5);
        edge.asks("mayGo 1 1", 15);
        edge.asks("mayGo 1 0", 0);
        // A snapped one does not hold.
        edge.due("cuts 0", 1);
        edge.asks("mayGo 0 0", 0);
        edge.asks("mayGo 0 1", 30);
        // In the cold one may go less far.
        edge.town("p05;p14;b0001;c2;");
        edge.asks("mayGo 0 0", 5);
        edge.asks("mayGo 0 1", 23);
    }

    private static void rests() {
        edge.says("REST of one: of the PLACES from the one to the other the one in which LEFT and RIGHT are least apart, of several "
            + "the least.");
        edge.town("p12;p00;p30;");
        edge.asks("rest 0", 0);
        edge.asks("rest 1", 0);
        edge.asks("rest 2", 0);
        // Where the band is slack, 8 to 12, both are 0.
        edge.town("p15;p10;b0001;");
        edge.asks("rest 0", 8);
        // Never alike: at 15 and at 16 by 2 apart.
        edge.town("p12;p10;p21;b5001;b5002;");
        edge.asks("rest 0", 15);
        // The middle would be 20, or 10: the last place that one may go to is nearest to it.
        edge.town("p12;p10;p30;p12;b5001;b5002;b3003;");
        edge.asks("mayGo 0 1", 15);
        edge.asks("rest 0", 15);
        edge.town("p18;p20;p00;p18;b5001;b5002;b3003;");
        edge.asks("mayGo 0 0", 15);
        edge.asks("rest 0", 15);
    }

    private static void yearsOn() {
        edge.says("In mind, n YEARS on (0 .. 60; YEAR no matter): PLACE of one; BANDS (bits) SNAPPED.");
        edge.town(TORN);
        edge.asks("placeIn 1 0", 13);
        edge.asks("placeIn 1 1", 14);
        edge.asks("placeIn 1 60", 18);
        edge.asks("snappedIn 0", 0);
        edge.asks("snappedIn 1", 1);
        edge.asks("snappedIn 60", 1);
        edge.refusedOf("placeIn 1 #", -1, -1, 61);
        edge.refusedOf("snappedIn #", -1, -1, 61);
        // Two swap places: 999 years and 60 more are an odd number of swaps.
        edge.town("p10;p11;b5001;" + "y60;".repeat(16) + "y39;");
        edge.refused("years 1", -3);
        edge.asks("placeIn 0 0", 11);
        edge.asks("placeIn 0 1", 10);
        edge.asks("placeIn 0 59", 10);
        edge.asks("placeIn 0 60", 11);
        edge.asks("snappedIn 60", 0);
        edge.more("p20;p21;b3023;");
        edge.asks("snappedIn 14", 0);
        edge.asks("snappedIn 15", 2);
        edge.asks("firstSnap 0", 15);
        edge.due("cuts 0", 1);
        edge.asks("still", 15);
        // What is snapped already is told, too.
        edge.town("p00;p00;b0001;b0001;x1;");
        edge.asks("snappedIn 0", 2);
        edge.asks("snappedIn 60", 2);
    }

    private static void stillness() {
        edge.says("STILL: behind how many YEARS (0 .. 60) first nobody steps and nothing is SNAPPED in the next one; -4.");
        edge.asks("still", 0);
        edge.town("p10;p12;b0001;");
        edge.asks("still", 0);
        edge.town("p10;p13;b0001;");
        edge.asks("still", 1);
        // In the 15th year nobody steps, but the red one snaps.
        edge.town("p10;p11;b3001;");
        edge.asks("placeIn 0 14", 10);
        edge.asks("placeIn 0 15", 10);
        edge.asks("still", 15);
        // Behind 61 years, and behind 60.
        edge.town(LONG);
        edge.asks("still", -4);
        edge.due("years 1", 0);
        edge.asks("still", -4);
        edge.due("years 1", 0);
        edge.asks("still", 60);
        edge.due("years 1", 0);
        edge.asks("still", 59);
        edge.due("years 59", 1);
        edge.asks("still", 0);
        // They swap places for ever.
        edge.town("p10;p11;b5001;");
        edge.asks("still", -4);
    }

    private static void firstSnaps() {
        edge.says("FIRST SNAP: the first YEAR (1 .. 60 from now) in which a BAND is SNAPPED; the one, of several the least; -4.");
        edge.asks("firstSnap 0", -4);
        edge.asks("firstSnap 1", -4);
        edge.town(TORN);
        edge.asks("firstSnap 0", 1);
        edge.asks("firstSnap 1", 0);
        edge.due("years 1", 1);
        edge.asks("firstSnap 0", -4);
        edge.asks("firstSnap 1", -4);
        // In the 60th year, and in the 61st.
        edge.town(LONG);
        edge.asks("firstSnap 0", 60);
        edge.asks("firstSnap 1", 4);
        edge.due("years 59", 0);
        edge.asks("firstSnap 0", 1);
        edge.town("p02;p01;p00;p02;p02;b1113;b5612;b3520;b4421;b5034;b0230;y04;");
        edge.asks("firstSnap 0", -4);
        edge.asks("firstSnap 1", -4);
        edge.due("years 1", 0);
        edge.asks("firstSnap 0", 60);
        // Of two the least, but not one that is snapped already.
        edge.town("p10;p13;p00;p23;b6901;b3001;b3001;b5002;b5013;x0;");
        edge.asks("firstSnap 0", 1);
        edge.asks("firstSnap 1", 1);
        // In one year 1 is snapped ahead of the steps, and 0 behind them.
        edge.town("p10;p10;p00;p20;p25;p25;b3001;b3045;y09;g111;g527;b5002;b5013;");
        edge.asks("snappedIn 1", 3);
        edge.asks("firstSnap 0", 1);
        edge.asks("firstSnap 1", 0);
    }

    private static void christmas() {
        edge.says("CHRISTMAS: the PLACE from which it is least far to all together, of several the least; how far; how many BANDS "
            + "are SNAPPED if all go there one behind the other, by numbers.");
        edge.asks("christmas 0", 0);
        edge.asks("christmas 1", 0);
        edge.asks("christmas 2", 0);
        edge.town("p30;");
        edge.asks("christmas 0", 30);
        edge.asks("christmas 1", 0);
        // From 4 to 10 all places are alike.
        edge.town("p10;p04;");
        edge.asks("christmas 0", 4);
        edge.asks("christmas 1", 6);
        edge.town("p01;p01;");
        edge.asks("christmas 0", 1);
        edge.asks("christmas 1", 0);
        edge.town("p30;p00;p30;p30;p30;p30;p30;");
        edge.asks("christmas 0", 30);
        edge.asks("christmas 1", 30);
        // The band lets them be 10 apart: who goes first must be the farther one.
        edge.town("p10;p00;p20;p20;p20;b0001;");
        edge.asks("christmas 0", 20);
        edge.asks("christmas 2", 1);
        // From now, each time that it is asked.
        edge.asks("christmas 2", 1);
        edge.asks("placeIn 0 60", 6);
        edge.asks("christmas 2", 1);
        edge.town("p00;p10;p20;p20;p20;b0001;");
        edge.asks("christmas 2", 0);
        // What is snapped already does not count.
        edge.town("p10;p00;p20;p20;p20;b0001;x0;");
        edge.asks("christmas 2", 0);
    }

    private static void orders() {
        edge.says("ORDER: the order of all PEOPLE in which, going there one behind the other, fewest are SNAPPED, of several the "
            + "first (by numbers): how many; the i-th one.");
        edge.asks("order -1", 0);
        edge.refused("order 0", -1);
        edge.town("p30;");
        order(0, 0);
        // All orders are alike.
        edge.town("p00;p05;p10;p15;p20;p25;p30;");
        order(0, 0, 1, 2, 3, 4, 5, 6);
        edge.refused("order 7", -1);
        // The farther one has to go first; or it does not matter, as one is snapped anyhow.
        edge.town("p10;p00;p20;p20;p20;b0001;");
        order(0, 1, 0, 2, 3, 4);
        edge.town("p00;p10;p20;p20;p20;b0001;");
        order(0, 0, 1, 2, 3, 4);
        edge.town("p10;p05;p30;p30;p30;b0001;");
        order(1, 0, 1, 2, 3, 4);
        // Two round the same; one that is snapped already does not count.
        edge.town("p10;p05;p30;p30;p30;b0001;b0001;");
        order(2, 0, 1, 2, 3, 4);
        edge.due("cuts 1", 1);
        order(1, 0, 1, 2, 3, 4);
        edge.due("cuts 0", 2);
        order(0, 0, 1, 2, 3, 4);
        // Only the last may go ahead of the first: all between stay in their order, as early as can be.
        edge.town("p14;p24;p24;p24;p24;p24;p07;b0006;");
        order(0, 1, 2, 3, 4, 5, 6, 0);
        // What was weighed for the town before does not matter any more: now the other one is the farther one.
        edge.town("p00;p10;p20;p20;p20;b0001;");
        order(0, 0, 1, 2, 3, 4);
        edge.due("goes 0 10", 0);
        edge.due("goes 1 0", 0);
        order(0, 1, 0, 2, 3, 4);
        edge.due("cuts 0", 1);
        order(0, 0, 1, 2, 3, 4);
    }

    private static void order(int fewest, int... people) {
        edge.asks("order -1", fewest);
        for (int i = 0; i < people.length; i++) {
            edge.asks("order " + i, people[i]);
        }
        edge.asks("order -1", fewest);
    }

    private static void lettingGo() {
        edge.says("LET GO: BANDS (bits) that would be SNAPPED if one went to a PLACE.");
        edge.town("p10;p10;p15;b0001;b0002;b0012;");
        edge.asks("letGo 0 10", 0);
        edge.asks("letGo 0 5", 0);
        edge.asks("letGo 0 4", 2);
        edge.asks("letGo 0 0", 2);
        edge.asks("letGo 0 30", 3);
        edge.refusedOf("letGo 0 #", -1, -1, 31);
        // One that is snapped already is let go no more.
        edge.due("cuts 0", 1);
        edge.asks("letGo 0 30", 2);
        edge.town("p10;p10;" + "b0001;".repeat(10));
        edge.asks("letGo 1 30", 1023);
    }

    private static void crossings() {
        String places = "p00;p05;p10;p15;p20;p10;p05;";
        edge.says("CROSSING: two BANDS, not SNAPPED, cross, if just one END of the one lies between those of the other (its PLACE, "
            + "neither of theirs) and one of the other's between those of the one:");
        crossing(places + "b6902;b6913;", 1, 1);
        crossing(places + "b6913;b6902;", 1, 1);
        crossing(places + "b6920;b6931;", 1, 1);
        crossing(places + "b6920;b6913;", 1, 1);
        // One next to the other, at one place; from one place to either side; alike.
        crossing(places + "b6902;b6924;", 0, -4);
        crossing(places + "b6902;b6954;", 0, -4);
        crossing(places + "b6912;b6963;", 0, -4);
        crossing(places + "b6902;b6904;", 0, -4);
        crossing(places + "b6924;b6904;", 0, -4);
        crossing(places + "b6902;b6902;", 0, -4);
        crossing(places + "b6902;b6950;", 0, -4);
        // Far from one another; the one within the other; at one place within the other, and at its end.
        crossing(places + "b6901;b6934;", 0, -4);
        crossing(places + "b6904;b6913;", 0, -4);
        crossing(places + "b6902;b6916;", 0, -4);
        crossing(places + "b6902;b6925;", 0, -4);
        // Snapped ones do not cross.
        crossing(places + "b6902;b6913;x0;", 0, -4);
        crossing(places + "b6902;b6913;x1;", 0, -4);

        edge.says("how many twos; the first (10 the lesser and the other); -4.");
        crossing("", 0, -4);
        crossing(places + "b6902;", 0, -4);
        crossing(places + "b6904;b6902;b6914;b6913;", 2, 12);
        crossing(places + "b6901;".repeat(8) + "b6914;b6902;", 1, 89);
        // Five that each cross five.
        crossing(places + "b6902;".repeat(5) + "b6913;".repeat(5), 25, 5);
    }

    /** On an object each, as the one is not to hang on the other's having been asked. */
    private static void crossing(String town, int howMany, int first) {
        edge.anew();
        if (!town.isEmpty()) {
            edge.more(town);
        }
        edge.asks("crossing 0", howMany);
        edge.anew();
        if (!town.isEmpty()) {
            edge.more(town);
        }
        edge.asks("crossing 1", first);
    }

    private static void untangling() {
        String places = "p00;p05;p10;p15;p20;p25;";
        edge.says("UNTANGLE: the fewest BANDS (bits, of several the least) without which no two cross.");
        edge.asks("untangle", 0);
        edge.town(places + "b6901;b6924;");
        edge.asks("untangle", 0);
        // Of two alike the least bits.
        edge.town(places + "b6945;b6902;b6913;");
        edge.asks("untangle", 2);
        // One with greater bits rather than two with lesser ones.
        edge.town(places + "b6902;b6924;b6913;");
        edge.asks("crossing 0", 2);
        edge.asks("untangle", 4);
        // Nobody crosses a snapped one.
        edge.due("cuts 2", 1);
        edge.asks("untangle", 0);
        // Five have to go of ten, the first ones.
        edge.town(places + "b6902;".repeat(5) + "b6913;".repeat(5));
        edge.asks("untangle", 31);
        edge.town(places + "b6902;".repeat(4) + "b6913;".repeat(6));
        edge.asks("untangle", 15);
        edge.town(places + "b6902;".repeat(6) + "b6913;".repeat(4));
        edge.asks("untangle", 960);
    }
}
