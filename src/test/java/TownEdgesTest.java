/** The edges of people, bands, kinds, trying and years, each beside the document's sentence that names it. */
public final class TownEdgesTest {
    private static final Edges edge = new Edges();

    public static void main(String[] args) {
        object();
        people();
        bands();
        coldAndYear();
        kinds();
        slacks();
        gauges();
        holds();
        stretching();
        trying();
        pulling();
        going();
        aYear();
        edge.end("TownEdgesTest");
    }

    private static void object() {
        edge.says("An object is used for at most 512 calls after it has been made");
        edge.due("comes 0", 0);
        edge.due("comes 10", 1);
        edge.due("keep 0 1 0 0", 0);
        edge.due("ties 0 0 1", 0);
        for (int call = 5; call <= 511; call++) {
            edge.due("person 0 3", 8);
        }
        edge.due("goes 0 30", 1);
    }

    private static void people() {
        edge.says("PEOPLE 0 .. 6 as they come (7 at most)");
        edge.asks("person 0 0", -1);
        for (int p = 0; p <= 6; p++) {
            edge.due("comes " + (20 - p), p);
            edge.asks("person " + p + " 0", 20 - p);
            edge.refused("person " + (p + 1) + " 0", -1);
        }
        edge.refused("comes 0", -2);
        edge.refused("person -1 0", -1);

        edge.says("each at a PLACE (0 .. 30)");
        edge.due("comes 0", 0);
        edge.due("comes 30", 1);
        edge.refusedOf("comes #", -1, -1, 31, Edges.LEAST, Edges.MOST);
        edge.asks("person 0 0", 0);
        edge.asks("person 1 0", 30);
        edge.due("goes 0 30", 0);
        edge.due("goes 1 0", 0);
        edge.asks("person 0 0", 30);
        edge.asks("person 1 0", 0);
        edge.refusedOf("goes 0 #", -1, -1, 31);

        // No band is snapped twice, and there are ten of them: nobody is ever stung more often than ten times.
        edge.says("STUNG (times; 0 .. 99; 0 at first)");
        edge.town("p00;p30;");
        edge.due("keep 0 1 3 0", 0);
        for (int b = 0; b < 10; b++) {
            edge.asks("person 0 1", b);
            edge.due("ties 0 0 1", b);
        }
        edge.asks("person 0 1", 10);
        edge.asks("person 1 1", 10);
        edge.due("comes 0", 2);
        edge.asks("person 2 1", 0);
    }

    private static void bands() {
        edge.says("BANDS 0 .. 9 as they come (10 at most)");
        edge.town("p00;p00;");
        edge.due("keep 0 1 0 0", 0);
        edge.asks("band 0 0", -1);
        for (int b = 0; b <= 9; b++) {
            edge.due("ties 0 0 1", b);
            edge.asks("band " + b + " 0", 0);
            edge.refused("band " + (b + 1) + " 0", -1);
        }
        edge.refused("ties 0 0 1", -2);
        edge.refused("band -1 0", -1);
        // Those that are gone keep their numbers, and their room.
        edge.due("cuts 0", 1);
        edge.due("cuts 9", 2);
        edge.refused("ties 0 0 1", -2);
        edge.asks("count 1", 10);

        edge.says("of KINDS, each with a FIGURE (0 .. 9)");
        edge.town("p00;p00;");
        edge.due("keep 0 1 7 9", 0);
        edge.due("ties 0 0 1", 0);
        edge.asks("band 0 0", 7);
        edge.asks("band 0 1", 9);
        edge.due("keep 0 1 0 0", 0);
        edge.due("ties 0 0 1", 1);
        edge.asks("band 1 0", 0);
        edge.asks("band 1 1", 0);
        edge.refusedOf("keep 0 1 # 0", -1, -1, 8);
        edge.refusedOf("keep 0 1 0 #", -1, -1, 10);

        edge.says("two ENDS (two of PEOPLE)");
        edge.town("p00;p00;");
        edge.due("keep 0 1 0 0", 0);
        edge.due("ties 0 1 0", 0);
        edge.asks("band 0 2", 1);
        edge.asks("band 0 3", 0);
        edge.refused("ties 0 1 1", -1);
        edge.refusedOf("ties 0 # 0", -1, -1, 2);
        edge.refusedOf("ties 0 0 #", -1, -1, 2);

        edge.says("an AGE (0 .. 99; 0 at first)");
        edge.town("p00;p01;b0001;");
        edge.asks("band 0 4", 0);
        edge.more("y60;y38;");
        edge.asks("band 0 4", 98);
        edge.due("years 1", 0);
        edge.asks("band 0 4", 99);
        edge.due("years 1", 0);
        edge.asks("band 0 4", 99);
        edge.due("years 60", 0);
        edge.asks("band 0 4", 99);
        edge.more("b0001;");
        edge.asks("band 1 4", 0);

        edge.says("SNAPPED or not (not at first)");
        edge.town("p00;p10;p11;b0002;b0001;");
        edge.asks("band 0 5", 1);
        edge.asks("band 1 5", 0);
    }

    private static void coldAndYear() {
        edge.says("COLD (0 .. 9; 0 at first)");
        edge.asks("count 3", 0);
        edge.due("cold 9", 0);
        edge.asks("count 3", 9);
        edge.refusedOf("cold #", -1, -1, 10);
        edge.due("cold 0", 0);
        edge.asks("count 3", 0);

        edge.says("YEAR (0 .. 999; 0 at first)");
        edge.asks("count 2", 0);
        edge.due("years 1", 0);
        edge.asks("count 2", 1);
        for (int i = 0; i < 16; i++) {
            edge.due("years 60", 0);
        }
        edge.due("years 38", 0);
        edge.asks("count 2", 999);
        edge.refused("years 1", -3);
    }

    private static void kinds() {
        edge.says("KINDS: 0 BAND; 1 MARRIAGE under BAND; 2 TWINS under MARRIAGE; 3 RED under BAND; 4 KNOT under BAND; "
            + "5 WIDOW under MARRIAGE; 6 INLAW under BAND; 7 FEUD under RED.");
        int[] stretch = {14, 17, 16, 16, 15, 20, 10, 12};
        int[] holds = {12, 16, 32, 3, 6, 30, 12, 5};
        for (int kind = 0; kind <= 7; kind++) {
            edge.town("p00;p20;b" + kind + "401;");
            edge.asks("band 0 0", kind);
            edge.asks("band 0 6", stretch[kind]);
            edge.asks("band 0 8", holds[kind]);
        }
    }

    private static void slacks() {
        edge.says("SLACK: BAND FIGURE and 2");
        slack(0, 2, 3, 4, 5, 6, 7, 8, 9, 10, 11);

        edge.says("MARRIAGE half of a BAND's, cut");
        slack(1, 1, 1, 2, 2, 3, 3, 4, 4, 5, 5);

        edge.says("TWINS 1 more than a MARRIAGE's");
        slack(2, 2, 2, 3, 3, 4, 4, 5, 5, 6, 6);

        edge.says("RED FIGURE");
        slack(3, 0, 1, 2, 3, 4, 5, 6, 7, 8, 9);

        edge.says("KNOT 1 less than a BAND's");
        slack(4, 1, 2, 3, 4, 5, 6, 7, 8, 9, 10);

        edge.says("WIDOW 0");
        slack(5, 0, 0, 0, 0, 0, 0, 0, 0, 0, 0);

        edge.says("INLAW 4 more than a BAND's");
        slack(6, 6, 7, 8, 9, 10, 11, 12, 13, 14, 15);

        edge.says("FEUD twice a RED's");
        slack(7, 0, 2, 4, 6, 8, 10, 12, 14, 16, 18);
    }

    /** The slack of a kind, by figures 0 to 9: the last place without stretch, and the first with it. */
    private static void slack(int kind, int... byFigure) {
        for (int figure = 0; figure <= 9; figure++) {
            edge.anew();
            edge.due("comes 0", 0);
            edge.due("comes " + byFigure[figure], 1);
            edge.due("comes " + (byFigure[figure] + 1), 2);
            edge.more("b" + kind + figure + "01;b" + kind + figure + "02;");
            edge.asks("band 0 6", 0);
            edge.asks("band 1 6", 1);
        }
    }

    private static void gauges() {
        edge.says("GAUGE: BAND 1");
        gauge(0, 1, 2);

        edge.says("MARRIAGE 1 more");
        gauge(1, 2, 1);

        edge.says("TWINS 1 more than a MARRIAGE's; KNOT 2 more than a BAND's");
        gauge(2, 3, 2);
        gauge(4, 3, 1);

        edge.says("FEUD 4");
        gauge(7, 4, 0);

        edge.says("others as what they are under");
        gauge(3, 1, 0);
        gauge(5, 2, 0);
        gauge(6, 1, 6);
    }

    /** The gauge of a kind of figure 0 that has that slack: by stretches of 0, 1 and 3. */
    private static void gauge(int kind, int gauge, int slack) {
        edge.anew();
        edge.due("comes 0", 0);
        edge.due("comes " + slack, 1);
        edge.due("comes " + (slack + 1), 2);
        edge.due("comes " + (slack + 3), 3);
        edge.more("b" + kind + "001;b" + kind + "002;b" + kind + "003;");
        edge.asks("band 0 7", 0);
        edge.asks("band 1 7", gauge);
        edge.asks("band 2 7", 3 * gauge);
    }

    private static void holds() {
        edge.says("HOLDS: BAND FIGURE and 8");
        holds(0, 8, 9, 10, 11, 12, 13, 14, 15, 16, 17);

        edge.says("MARRIAGE 4 more");
        holds(1, 12, 13, 14, 15, 16, 17, 18, 19, 20, 21);

        edge.says("TWINS twice a MARRIAGE's");
        holds(2, 24, 26, 28, 30, 32, 34, 36, 38, 40, 42);

        edge.says("RED 3");
        holds(3, 3, 3, 3, 3, 3, 3, 3, 3, 3, 3);

        edge.says("KNOT half of a BAND's, cut");
        holds(4, 4, 4, 5, 5, 6, 6, 7, 7, 8, 8);

        edge.says("WIDOW 30");
        holds(5, 30, 30, 30, 30, 30, 30, 30, 30, 30, 30);

        edge.says("FEUD 2 more than a RED's");
        holds(7, 5, 5, 5, 5, 5, 5, 5, 5, 5, 5);

        edge.says("others as what they are under");
        holds(6, 8, 9, 10, 11, 12, 13, 14, 15, 16, 17);
    }

    private static void holds(int kind, int... byFigure) {
        for (int figure = 0; figure <= 9; figure++) {
            edge.town("p00;p00;b" + kind + figure + "01;");
            edge.asks("band 0 8", byFigure[figure]);
        }
    }

    private static void stretching() {
        edge.says("STRETCH of a BAND: how far its ENDS' PLACES are apart, less SLACK (0 at least).");
        edge.town("p05;p05;p07;p08;p30;b0001;b0002;b0003;b0004;b0040;");
        edge.asks("band 0 6", 0);
        edge.asks("band 1 6", 0);
        edge.asks("band 2 6", 1);
        // Snapped, it is stretched still; and it is as far from the one end as from the other.
        edge.asks("band 3 6", 23);
        edge.asks("band 4 6", 23);

        edge.says("PULL: STRETCH times GAUGE (0, if it is SNAPPED).");
        edge.town("p00;p09;b1001;");
        edge.asks("band 0 7", 16);
        edge.due("cuts 0", 1);
        edge.asks("band 0 7", 0);
        edge.town("p00;p30;b1001;");
        edge.asks("band 0 6", 29);
        edge.asks("band 0 7", 0);

        edge.says("HOLDS NOW: HOLDS less AGE by 5, cut, less COLD by 2, cut (0 at least).");
        edge.town("p00;p00;b0001;y04;c1;");
        edge.asks("band 0 8", 8);
        edge.due("years 1", 0);
        edge.asks("band 0 8", 7);
        edge.due("cold 2", 0);
        edge.asks("band 0 8", 6);
        edge.due("cold 3", 0);
        edge.asks("band 0 8", 6);
        edge.due("cold 9", 0);
        edge.asks("band 0 8", 3);
        edge.due("years 4", 0);
        edge.asks("band 0 8", 3);
        edge.due("years 1", 0);
        edge.asks("band 0 8", 2);
        // Were it less than 0, a band without stretch would be snapped.
        edge.town("p00;p00;b3001;y14;");
        edge.asks("band 0 8", 1);
        edge.due("years 1", 0);
        edge.asks("band 0 8", 0);
        edge.due("years 60", 0);
        edge.asks("band 0 8", 0);
        edge.due("cold 9", 0);
        edge.asks("band 0 8", 0);
        edge.asks("count 4", 0);
    }

    private static void trying() {
        edge.says("All are TRIED: each that is not SNAPPED and has more STRETCH than it HOLDS NOW is SNAPPED from then on");
        edge.town("p00;p10;b0001;");
        edge.asks("band 0 6", 8);
        edge.asks("band 0 8", 8);
        edge.asks("count 4", 0);
        edge.due("goes 1 11", 1);
        edge.asks("count 4", 1);
        edge.due("goes 1 0", 0);
        edge.asks("count 4", 1);
        // Snapped once, it is not snapped again.
        edge.due("goes 1 30", 0);
        edge.asks("person 0 1", 1);

        edge.says("each of its ENDS STUNG once more (99 at most).");
        edge.town("p10;p00;p20;p10;b0001;b0002;b6903;");
        edge.due("goes 0 30", 1);
        edge.asks("person 0 1", 1);
        edge.asks("person 1 1", 1);
        edge.asks("person 2 1", 0);
        edge.due("goes 0 0", 1);
        edge.asks("person 0 1", 2);
        edge.asks("person 1 1", 1);
        edge.asks("person 2 1", 1);
        edge.asks("person 3 1", 0);
        // Two at once sting twice.
        edge.town("p10;p10;p10;b0001;b0002;");
        edge.due("goes 0 30", 2);
        edge.asks("person 0 1", 2);
        edge.asks("count 5", 4);
    }

    private static void pulling() {
        edge.says("One is pulled LEFT by what all BANDS to those at lesser PLACES PULL together, RIGHT likewise by those to "
            + "greater ones.");
        edge.town("p10;p09;p08;p11;p10;b5001;b5020;b5030;b5004;");
        edge.asks("person 0 2", 6);
        edge.asks("person 0 3", 2);
        // At one place they pull to no side.
        edge.asks("person 4 2", 0);
        edge.asks("person 4 3", 0);
        // A snapped one pulls no more, and those round others pull others.
        edge.due("cuts 1", 1);
        edge.asks("person 0 2", 2);
        edge.asks("person 2 3", 0);
        edge.asks("person 1 3", 2);
    }

    private static void going() {
        edge.says("One GOES to a PLACE in one go: then all are TRIED.");
        edge.town("p10;p20;p00;b0001;b0002;");
        edge.due("goes 0 0", 1);
        edge.asks("count 4", 1);
        edge.asks("person 0 0", 0);
        // To where one is already.
        edge.due("goes 0 0", 0);
        edge.due("goes 0 30", 1);
        edge.asks("count 4", 3);
        // Past the other one: as far from it in the end as in the beginning.
        edge.town("p10;p20;b0001;");
        edge.due("goes 0 30", 0);
        edge.asks("count 4", 0);
    }

    private static void aYear() {
        edge.says("A YEAR: YEAR is 1 more, AGE of each BAND 1 more (99 at most), all are TRIED;");
        // Of the snapped ones, too.
        edge.town("p00;p30;p00;b0001;b0002;");
        edge.due("years 1", 0);
        edge.asks("count 2", 1);
        edge.asks("band 0 4", 1);
        edge.asks("band 1 4", 1);
        // Worn out ahead of the steps: nobody is pulled by it any more.
        edge.town("p10;p10;b3001;y09;g112;");
        edge.due("years 1", 1);
        edge.asks("person 0 0", 10);
        edge.asks("person 1 0", 12);
        // 99 years old a widow holds 11; were she 100 then, she would hold 10.
        edge.town("p00;p00;b5001;y60;y39;g111;");
        edge.asks("band 0 8", 11);
        edge.asks("snappedIn 1", 0);
        edge.due("years 1", 0);
        edge.asks("band 0 4", 99);
        edge.asks("band 0 5", 0);

        edge.says("then all PEOPLE at once step 1 PLACE to the side they are pulled to more (neither: they stay);");
        // At once: were it one behind the other, the first one's step would leave the other 1 less to pull by.
        edge.town("p10;p11;b5001;");
        edge.due("years 1", 0);
        edge.asks("person 0 0", 11);
        edge.asks("person 1 0", 10);
        // One place only, however much they are pulled; from the ends of the town.
        edge.town("p00;p30;b5001;b5001;");
        edge.due("years 1", 0);
        edge.asks("person 0 0", 1);
        edge.asks("person 1 0", 29);
        // Alike to both sides; by nothing; more to the one side than to the other.
        edge.town("p10;p15;p20;p07;b5001;b5012;");
        edge.due("years 1", 0);
        edge.asks("person 0 0", 11);
        edge.asks("person 1 0", 15);
        edge.asks("person 2 0", 19);
        edge.asks("person 3 0", 7);
        edge.town("p10;p15;p21;b5001;b5012;");
        edge.due("years 1", 0);
        edge.asks("person 1 0", 16);

        edge.says("all are TRIED again.");
        edge.town("p10;p13;p00;p23;b3001;b5002;b5013;");
        edge.due("years 1", 1);
        edge.asks("person 0 0", 9);
        edge.asks("person 1 0", 14);
        edge.asks("count 4", 1);
        edge.asks("person 0 1", 1);
        edge.asks("person 1 1", 1);
    }
}
