/** The edges of the text of a town, each beside the document's sentence that names it. */
public final class TextEdgesTest {
    private static final Edges edge = new Edges();

    public static void main(String[] args) {
        where();
        statements();
        peopleAndBands();
        goingsColdsYearsCuts();
        formFaults();
        statementFaults();
        reasons();
        allOrNothing();
        saidOnceMore();
        edge.end("TextEdgesTest");
    }

    /** On a new object: so many statements come. */
    private static void fine(String text, int statements) {
        edge.anew();
        edge.text(0, text);
        edge.due("town 0", statements);
    }

    /** On a new object: the text has that fault, and nothing comes. */
    private static void fault(String text, int fault) {
        edge.anew();
        edge.text(0, text);
        edge.refused("town 0", fault);
        edge.asks("count 0", 0);
    }

    private static void where() {
        edge.says("THE TEXT of a TOWN stands in a ROW of bytes on a SHELF:");
        edge.refusedOf("town #", -1, -1, 8);
        edge.refusedOf("town #", -11, 0, 7);
        edge.text(0, "p10;");
        edge.text(7, "p20;p30;");
        edge.due("town 7", 2);
        edge.due("town 0", 1);
        edge.asks("person 2 0", 10);
        edge.row(1, 1, 'p', '0', '0', ';');
        edge.refused("town 1", -12);
        edge.row(1, 2, 'p', '0', '0', ';');
        edge.refused("town 1", -12);
    }

    private static void statements() {
        edge.says("STATEMENTS, each with \";\" behind, one at least:");
        fault("", -1000);
        fault(";", -1000);
        fine("c0;", 1);
        fault("c0", -1002);
        fault("c0;c0", -1005);
        fault("c0;;", -1003);
        fault("c0;;c0;", -1003);
        fine("c0;c0;", 2);
        // As many as a row has room for, and one byte less than that.
        fine("c0;".repeat(32) + "p00;", 33);
        fault("c0;".repeat(32) + "p00", -1099);
        fault("c0;".repeat(33) + "c", -1100);
    }

    private static void peopleAndBands() {
        edge.says("\"p\" PLACE (2 digits): one more;");
        fine("p00;p30;", 2);
        edge.asks("count 0", 2);
        edge.asks("person 0 0", 0);
        edge.asks("person 1 0", 30);
        fine("p09;", 1);
        edge.asks("person 0 0", 9);
        fault("p31;", -2000);
        fault("p99;", -2000);
        fault("p0;", -1002);
        fault("p030;", -1003);

        edge.says("\"b\" KIND, FIGURE, two of them (a digit each): a BAND more, then all are TRIED;");
        fine("p00;p10;b7910;", 3);
        edge.asks("band 0 0", 7);
        edge.asks("band 0 1", 9);
        edge.asks("band 0 2", 1);
        edge.asks("band 0 3", 0);
        fine("p00;p10;b0001;", 3);
        edge.asks("count 4", 0);
        fine("p00;p11;b0001;", 3);
        edge.asks("count 4", 1);
        edge.asks("count 5", 2);
        fault("p00;p10;b000;", -1012);
        fault("p00;p10;b00001;", -1013);
    }

    private static void goingsColdsYearsCuts() {
        edge.says("\"g\" one (a digit), PLACE (2 digits): GOES;");
        fine("p00;p00;g130;", 3);
        edge.asks("person 1 0", 30);
        fine("p00;p10;b0001;g110;", 4);
        edge.asks("count 4", 0);
        fine("p00;p10;b0001;g111;", 4);
        edge.asks("count 4", 1);
        edge.asks("count 5", 2);
        fine("p05;g000;", 2);
        edge.asks("person 0 0", 0);
        fault("p00;g00;", -1007);
        fault("p00;g0000;", -1008);

        edge.says("\"c\" COLD (a digit), then all are TRIED;");
        fine("c9;", 1);
        edge.asks("count 3", 9);
        fine("c9;c0;", 2);
        edge.asks("count 3", 0);
        fine("p00;p10;b0001;c1;", 4);
        edge.asks("count 4", 0);
        fine("p00;p10;b0001;c2;", 4);
        edge.asks("count 4", 1);
        edge.asks("count 5", 2);
        fault("c;", -1001);
        fault("c10;", -1002);

        edge.says("\"y\" YEARS (2 digits, 1 .. 60): they go by;");
        fine("y01;", 1);
        edge.asks("count 2", 1);
        fine("y60;", 1);
        edge.asks("count 2", 60);
        fault("y00;", -2000);
        fault("y61;", -2000);
        fault("y1;", -1002);
        fault("y001;", -1003);
        fine("p00;p10;b0001;y02;", 4);
        edge.asks("person 0 0", 2);
        edge.asks("band 0 4", 2);

        edge.says("\"x\" a BAND (a digit): it is cut (SNAPPED, nobody STUNG).");
        fine("p00;p10;b0001;x0;", 4);
        edge.asks("count 4", 1);
        edge.asks("count 5", 0);
        fine("p00;p00;" + "b0001;".repeat(10) + "x9;", 13);
        edge.asks("count 4", 512);
        fault("x;", -1001);
        fault("x00;", -1002);
    }

    private static void formFaults() {
        edge.says("FAULT: kind 1 the place of the first byte with which no TOWN can go on (the end, if something lacks): "
            + "-1000 less the place;");
        for (String first : new String[] {"q", "P", " ", "0", ";", "o", "a"}) {
            fault(first + "00;", -1000);
        }
        // Next to the digits, on either side of them.
        fault("p/0;", -1001);
        fault("p:0;", -1001);
        fault("p0/;", -1002);
        fault("p0:;", -1002);
        fault("c/;", -1001);
        fault("c:;", -1001);
        // Next to the sign that ends a statement.
        fault("c0:", -1002);
        fault("c0<", -1002);
        // Bytes below 0, and those that were never put.
        edge.row(1, 0, 'c', -48, ';');
        edge.refused("town 1", -1001);
        edge.row(1, 0, -'c', '0', ';');
        edge.refused("town 1", -1000);
        edge.due("row 1 0 3", 0);
        edge.refused("town 1", -1000);
        // What lacks is missed at the end, wherever that is.
        fault("p", -1001);
        fault("p0", -1002);
        fault("p00", -1003);
        fault("p00;b", -1005);
        fault("p00;b000", -1008);
        // The first one counts, and the last place that there is.
        fault("p00;q;q;", -1004);
        fault("c0;".repeat(33) + "q", -1099);
        // A fault of kind 1 is told ahead of one of kind 2 that stands before it.
        fault("p99;q", -1004);
        fault("b0001;c0", -1008);
    }

    private static void statementFaults() {
        edge.says("else kind 2 the place of the letter of the first STATEMENT that is not as it must be");
        fault("p99;c0;", -2000);
        fault("c0;p99;p99;", -2003);
        fault("c0;".repeat(32) + "p99;", -2096);

        edge.says("-2000 less the place.");
        fault("p99;", -2000);
        fault("c0;p99;", -2003);
    }

    private static void reasons() {
        String two = "p00;p10;";

        edge.says("(a number out of range");
        fine("p30;", 1);
        fault("p30;p31;", -2004);
        fine(two + "b7901;", 3);
        fault(two + "b8001;", -2008);
        fault(two + "b9001;", -2008);
        fine(two + "g030;", 3);
        fault(two + "g031;", -2008);
        fault("c9;y00;", -2003);
        fault("c9;y61;", -2003);

        edge.says("no such one");
        fault("p00;b0001;", -2004);
        fault(two + "b0002;", -2008);
        fault(two + "b0020;", -2008);
        fault(two + "b0091;", -2008);
        fault("g000;", -2000);
        fault(two + "g200;", -2008);
        fault(two + "x0;", -2008);
        fault(two + "b0001;x1;", -2014);

        edge.says("one twice");
        fault(two + "b0000;", -2008);
        fault(two + "b0011;", -2008);

        edge.says("a BAND SNAPPED already");
        fine(two + "b0001;x0;", 4);
        fault(two + "b0001;x0;x0;", -2017);
        fault(two + "b0001;c9;x0;", -2017);
        fine(two + "b0001;b0001;x0;x1;", 6);

        edge.says("YEAR above 999");
        fine("y60;".repeat(16) + "y39;", 17);
        edge.asks("count 2", 999);
        edge.text(1, "y01;");
        edge.refused("town 1", -2000);
        fault("y60;".repeat(16) + "y40;", -2064);

        edge.says("no room)");
        fine("p00;".repeat(7), 7);
        fault("p00;".repeat(8), -2028);
        fine("p00;p00;" + "b0001;".repeat(10), 12);
        fault("p00;p00;" + "b0001;".repeat(11), -2068);
        fault("p00;p00;" + "b0001;".repeat(10) + "x0;b0001;", -2071);
    }

    private static void allOrNothing() {
        edge.says("Without FAULT all of it comes, with one nothing.");
        String all = "p05;p29;g030;c9;y05;b6902;x0;";
        edge.town("p10;p20;");
        edge.text(0, all);
        edge.due("town 0", 7);
        edge.asks("count 0", 4);
        edge.asks("count 1", 1);
        edge.asks("count 2", 5);
        edge.asks("count 3", 9);
        edge.asks("count 4", 1);
        edge.asks("person 0 0", 30);
        // Of each kind a statement that could be done, ahead of one that can't.
        edge.town("p10;p20;");
        edge.text(0, all + "x0;");
        edge.refused("town 0", -2029);
        edge.text(0, all + "x0");
        edge.refused("town 0", -1031);
        edge.asks("count 0", 2);
        edge.asks("count 2", 0);
    }

    private static void saidOnceMore() {
        edge.says("numbers in THE TEXT have just as many digits as told;");
        fault("p5;", -1002);
        fault("p005;", -1003);
        fault("y5;", -1002);
        fault("y005;", -1003);
        fault("c00;", -1002);
        fault("p00;g05;", -1007);
        fault("p00;g0005;", -1008);
        fault("x00;", -1002);
        fault("b001;", -1004);
        fault("b00010;", -1005);
        fine("p05;y05;c5;g005;", 4);

        edge.says("STATEMENTS are tried one behind the other, each on what those ahead of it made, and the first that can't be "
            + "done so is told (kind 2).");
        fine("p00;p10;b0001;x0;", 4);
        fault("x0;p00;p10;b0001;", -2000);
        fault("p00;b0001;p10;x0;", -2004);
        // Snapped by what was told ahead of it: by going, by the cold, in a year.
        fault("p00;p10;b0001;g030;x0;p99;", -2019);
        fault("p00;p10;b0001;c2;x0;", -2017);
        fault("p10;p13;p00;p23;b3001;b5002;b5013;y01;x0;", -2038);
        fine("p10;p13;p00;p23;b3001;b5002;b5013;x0;y01;", 9);
        // Years add up.
        fault("y60;".repeat(16) + "y30;y10;", -2068);
        // And on what was there ahead of the text.
        edge.town("p00;p10;b0001;");
        edge.text(0, "b0001;x0;x1;p30;g230;");
        edge.due("town 0", 5);
        edge.asks("count 4", 3);
        edge.refused("town 0", -2006);
    }
}
