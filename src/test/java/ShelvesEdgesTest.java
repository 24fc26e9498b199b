/** The edges of shelves, the image and the refusals, each beside the document's sentence that names it. */
public final class ShelvesEdgesTest {
    private static final Edges edge = new Edges();
    private static final int[] NO_SHELVES = {-1, 8, Edges.LEAST, Edges.MOST};

    public static void main(String[] args) {
        shelves();
        rows();
        nothingHeld();
        anotherKind();
        noSuchPlace();
        sizesAndFailures();
        image();
        words();
        whatStays();
        yearsAbove();
        refusals();
        severalRefusals();
        longs();
        edge.end("ShelvesEdgesTest");
    }

    private static void shelves() {
        edge.says("SHELVES 0 .. 7 each hold nothing (at first), a KIND of BAND, a ROW.");
        for (int d = 0; d <= 7; d++) {
            edge.asks("cost " + d, -11);
            edge.asks("judge " + d, -11);
            edge.due("keep " + d + " 1 6 " + d, 0);
            edge.asks("cost " + d, 7);
            edge.asks("judge " + d, -12);
        }
        for (int d = 0; d <= 7; d++) {
            edge.asks("toss " + d, d == 0 ? -15 : d);
            edge.due("row " + d + " 0 1", 0);
            edge.asks("cost " + d, -12);
            edge.asks("judge " + d, -4);
            edge.due("keep " + d + " 0 0 0", 0);
            edge.asks("cost " + d, -11);
            edge.asks("judge " + d, -11);
        }
        edge.refusedOf("keep # 1 0 0", -1, NO_SHELVES);
        edge.refusedOf("row # 0 1", -1, NO_SHELVES);
    }

    private static void rows() {
        edge.says("A ROW has a SORT (0 bytes, 1 shorts, 2 ints) and 0 .. 100 elements, 0 at first; what is put in keeps its lowest "
            + "bits.");
        for (int sort = 0; sort <= 2; sort++) {
            edge.due("row 0 " + sort + " 0", 0);
            edge.asks("element 0 0", Calls.NO_PLACE);
            edge.refused("put 0 0 1", -13);
            edge.due("row 0 " + sort + " 100", 0);
            edge.asks("element 0 99", 0);
            edge.due("put 0 99 1", 0);
            edge.due("put 0 0 1", 0);
            edge.asks("element 0 99", 1);
            edge.asks("element 0 100", Calls.NO_PLACE);
            edge.refused("put 0 100 1", -13);
            // A new one has nothing of the one that was there.
            edge.due("row 0 " + sort + " 100", 0);
            edge.asks("element 0 0", 0);
            edge.asks("element 0 99", 0);
        }
        edge.refusedOf("row 0 # 1", -1, -1, 3);
        edge.refused("row 0 0 101", -1);
        edge.refused("row 0 0 -1", -14);
        kept(0, 127, 127);
        kept(0, 128, -128);
        kept(0, 255, -1);
        kept(0, 256, 0);
        kept(0, -128, -128);
        kept(0, -129, 127);
        kept(0, Edges.MOST, -1);
        kept(0, Edges.LEAST, 0);
        kept(1, 32767, 32767);
        kept(1, 32768, -32768);
        kept(1, 65535, -1);
        kept(1, 65536, 0);
        kept(1, -32768, -32768);
        kept(1, -32769, 32767);
        kept(1, Edges.MOST, -1);
        kept(1, Edges.LEAST, 0);
        kept(2, Edges.MOST, Edges.MOST);
        kept(2, Edges.LEAST, Edges.LEAST);
        kept(2, -1, -1);
    }

    private static void kept(int sort, int put, long kept) {
        edge.row(0, sort, put);
        edge.asks("element 0 0", kept);
    }

    private static void nothingHeld() {
        edge.says("-11 nothing is held where something is wanted;");
        edge.town("p00;p00;");
        edge.due("row 1 0 2", 0);
        edge.refused("town 0", -11);
        edge.refused("ties 0 0 1", -11);
        edge.refused("lurch 0 0", -11);
        edge.refused("gauges 0 0 0", -11);
        edge.refused("forged 0", -11);
        edge.refused("judge 0", -11);
        edge.refused("put 0 0 0", -11);
        edge.refused("copy 0 0 1 0 0", -11);
        edge.refused("copy 1 0 0 0 0", -11);
        edge.refused("copy 0 0 0 0 0", -11);
        edge.refused("cost 0", -11);
        edge.refused("toss 0", -11);
    }

    private static void anotherKind() {
        edge.says("-12 it is of another kind;");
        edge.town("p00;p00;");
        edge.due("keep 0 1 0 0", 0);
        edge.due("row 1 0 1", 0);
        edge.due("row 2 1 1", 0);
        edge.due("row 3 2 1", 0);
        edge.refusedOf("town #", -12, 0, 2, 3);
        edge.refusedOf("ties # 0 1", -12, 1, 2, 3);
        edge.refused("lurch 0 0", -12);
        edge.refused("gauges 0 0 0", -12);
        edge.refused("forged 0", -12);
        edge.refused("judge 0", -12);
        edge.refused("put 0 0 0", -12);
        edge.refusedOf("copy 0 0 # 0 0", -12, 0, 1, 2, 3);
        edge.refusedOf("copy # 0 0 0 0", -12, 1, 2, 3);
        edge.refusedOf("copy 1 0 # 0 0", -12, 2, 3);
        edge.refusedOf("copy 2 0 # 0 0", -12, 1, 3);
        edge.refusedOf("cost #", -12, 1, 2, 3);
        edge.refusedOf("toss #", -12, 1, 2, 3);
    }

    private static void noSuchPlace() {
        edge.says("-13 a place that isn't there (a number or a size that isn't as told, too);");
        edge.town("p00;p00;");
        edge.row(0, 0, 1, 2, 3);
        edge.refusedOf("put 0 # 5", -13, -1, 3, Edges.LEAST, Edges.MOST);
        edge.refusedOf("copy 0 # 0 0 1", -13, -1, 3, Edges.LEAST, Edges.MOST);
        edge.refusedOf("copy 0 0 0 # 1", -13, -1, 3, Edges.LEAST, Edges.MOST);
        edge.refusedOf("copy 0 0 0 0 #", -13, -1, 4, Edges.LEAST, Edges.MOST);
        edge.refused("lurch 0 0", -13);
        edge.refused("forged 0", -13);
        edge.row(0, 0, 1, 31);
        edge.refused("forged 0", -13);
        edge.row(0, 0, 2, 30);
        edge.refused("forged 0", -13);
    }

    private static void sizesAndFailures() {
        edge.says("-14 a size below 0;");
        edge.due("row 0 0 0", 0);
        edge.refusedOf("row 0 0 #", -14, -1, -100, Edges.LEAST);

        edge.says("-15 a FAILURE that is none.");
        for (int kind = 0; kind <= 7; kind++) {
            edge.due("keep 0 1 " + kind + " 0", 0);
            edge.refused("toss 0", -15);
        }
        edge.due("keep 0 1 3 9", 0);
        edge.refused("toss 0", -15);
        edge.due("keep 0 1 7 9", 0);
        edge.refused("toss 0", -15);
    }

    private static void image() {
        edge.says("THE IMAGE: all that there is, but SHELVES (and THE IMAGE); RESTORED all is as it was then.");
        edge.refused("restore", -3);
        edge.town("p00;p10;p30;b0001;b0102;c1;y02;");
        edge.due("image", 2);
        edge.more("p05;b4401;g020;c9;y05;");
        edge.due("comes 7", 4);
        edge.due("restore", 2);
        edge.asks("count 0", 3);
        edge.asks("count 1", 2);
        edge.asks("count 2", 2);
        edge.asks("count 3", 1);
        edge.asks("count 4", 2);
        edge.asks("count 5", 2);
        edge.asks("person 0 0", 2);
        edge.asks("person 0 1", 1);
        edge.asks("person 1 0", 8);
        edge.asks("person 3 0", -1);
        edge.asks("band 0 4", 2);
        edge.asks("band 0 5", 0);
        edge.asks("band 1 5", 1);
        edge.asks("band 1 1", 1);
        edge.asks("band 2 0", -1);
        // It stays, whatever comes, and is what was when it was taken last.
        edge.due("years 1", 0);
        edge.due("restore", 2);
        edge.due("restore", 2);
        edge.due("years 1", 0);
        edge.due("image", 3);
        edge.due("years 1", 0);
        edge.due("restore", 3);
        // Who comes then is new.
        edge.due("comes 9", 3);
        edge.asks("person 3 1", 0);
        edge.more("b0103;");
        edge.asks("band 2 0", 0);
        edge.asks("band 2 1", 1);
        edge.asks("band 2 4", 0);
        edge.asks("band 2 5", 0);
        // An image of nobody.
        edge.anew();
        edge.due("image", 0);
        edge.due("comes 9", 0);
        edge.due("years 60", 0);
        edge.due("restore", 0);
        edge.asks("count 0", 0);
    }

    private static void words() {
        edge.says("of a KIND (or SORT) \"n more\", \"n less\" without more words is: than what the one it is under has;");
        edge.town("p00;p09;b0301;b1301;b2301;");
        edge.asks("band 0 8", 11);
        edge.asks("band 1 8", 11 + 4);
        edge.asks("band 0 7", 4);
        edge.asks("band 1 7", (9 - 2) * (1 + 1));
        edge.asks("band 2 7", (9 - 3) * (2 + 1));

        edge.says("\"a by b, cut\" is a divided by b, toward 0;");
        edge.town("p00;p05;b1101;b4101;y09;c9;g005;");
        edge.asks("band 0 8", 13 - 1 - 4);
        edge.asks("band 1 8", 0);
        edge.town("p00;p05;b1101;b4101;");
        edge.asks("band 0 6", 5 - 1);
        edge.asks("band 1 8", 4);

        edge.says("\"a and b\" of two numbers is their sum;");
        edge.town("p00;p20;b0901;");
        edge.asks("band 0 6", 20 - (9 + 2));
        edge.asks("band 0 8", 9 + 8);
    }

    private static void whatStays() {
        edge.says("The ROW of a text, and what is taken from a SHELF, stay there; when THE IMAGE is RESTORED, SHELVES stay as they are.");
        edge.text(0, "p09;");
        edge.due("town 0", 1);
        edge.due("town 0", 1);
        edge.asks("count 0", 2);
        edge.asks("element 0 0", 'p');
        edge.asks("element 0 3", ';');
        edge.text(1, "p99;");
        edge.refused("town 1", -2000);
        edge.asks("element 1 1", '9');
        edge.due("keep 2 1 6 9", 0);
        edge.due("ties 2 0 1", 0);
        edge.due("ties 2 0 1", 1);
        edge.asks("cost 2", 7);
        edge.asks("toss 2", 9);
        edge.asks("cost 2", 7);
        // What was put on shelves behind the image stays, and what was taken from them does not come back.
        edge.due("image", 0);
        edge.due("keep 2 1 1 4", 0);
        edge.due("keep 0 0 0 0", 0);
        edge.due("put 1 1 48", 0);
        edge.due("row 3 2 2", 0);
        edge.due("restore", 0);
        edge.asks("cost 2", 6);
        edge.asks("cost 0", -11);
        edge.asks("element 1 1", '0');
        edge.asks("element 3 1", 0);
    }

    private static void yearsAbove() {
        edge.says("years() is refused (-3; in THE TEXT kind 2), if YEAR and n together are above 999; none of them goes then.");
        edge.town("y60;".repeat(16) + "p00;p10;b0001;");
        edge.refused("years 40", -3);
        edge.refused("years 60", -3);
        edge.text(0, "y40;");
        edge.refused("town 0", -2000);
        edge.text(0, "y39;y01;");
        edge.refused("town 0", -2004);
        edge.asks("count 2", 960);
        edge.asks("person 0 0", 0);
        edge.asks("band 0 4", 0);
        edge.due("years 38", 0);
        edge.refused("years 2", -3);
        edge.due("years 1", 0);
        edge.asks("count 2", 999);
        edge.refused("years 1", -3);
        edge.text(0, "y01;");
        edge.refused("town 0", -2000);
    }

    private static void refusals() {
        edge.says("REFUSALS (answers; nothing changes): -1 no such one, one twice, a number out of its range;");
        edge.town("p00;p10;b0001;");
        edge.due("keep 0 1 0 0", 0);
        edge.due("image", 0);
        edge.refusedOf("person # 0", -1, -1, 2, Edges.LEAST, Edges.MOST);
        edge.refused("ties 0 1 1", -1);
        edge.refused("cousins 1 1", -1);
        edge.refused("two 1 1", -1);
        edge.refusedOf("comes #", -1, -1, 31, Edges.LEAST, Edges.MOST);

        edge.says("-2 there is no room;");
        edge.town("p00;".repeat(7) + "b0001;".repeat(10));
        edge.due("keep 0 1 0 0", 0);
        edge.refused("comes 0", -2);
        edge.refused("ties 0 0 1", -2);

        edge.says("-3 it is not as it must be;");
        edge.refused("restore", -3);
        edge.refused("generations 1 1 0", -3);
        edge.town("y60;".repeat(16) + "p00;p00;b0001;x0;");
        edge.refused("years 40", -3);
        edge.refused("cuts 0", -3);
        edge.refused("two 0 1", -3);

        edge.says("-4 none.");
        edge.due("row 0 0 0", 0);
        edge.asks("firstSnap 0", -4);
        edge.asks("firstSnap 1", -4);
        edge.asks("crossing 1", -4);
        edge.asks("frost 0", -4);
        edge.asks("frost 1", -4);
        edge.asks("farthest 0", -4);
        edge.asks("farthest 1", -4);
        edge.asks("forged 0", -4);
        edge.asks("judge 0", -4);
        edge.town("p10;p11;b5001;x0;b5001;p12;");
        edge.asks("still", -4);
        edge.asks("cousins 0 2", -4);
    }

    private static void severalRefusals() {
        edge.says("Answers of several REFUSALS are the first one as they are told at the call.");
        edge.town("p00;".repeat(7) + "b0001;".repeat(9) + "y60;y60;");
        edge.more("y60;".repeat(14) + "b0001;x9;");
        edge.due("keep 1 1 0 0", 0);
        edge.due("row 2 0 1", 0);
        edge.due("row 3 1 8", 0);
        edge.refused("comes 31", -1);
        // Told: -1 (one twice), -11, -12 (a ROW), -2.
        edge.refused("ties 0 1 1", -1);
        edge.refused("ties 2 1 1", -1);
        edge.refused("ties 1 1 1", -1);
        edge.refused("ties 1 0 7", -1);
        edge.refused("ties 0 0 1", -11);
        edge.refused("ties 2 0 1", -12);
        edge.refused("ties 1 0 1", -2);
        // Told: -1, -3.
        edge.refused("years 61", -1);
        edge.refused("years 60", -3);
        edge.refused("cuts 10", -1);
        edge.refused("cuts 9", -3);
        edge.refused("two 0 0", -1);
        edge.refused("two 0 1", -3);
        // Told: -1, -11, -12, and for the one more: -13.
        edge.refused("lurch 0 2", -1);
        edge.refused("lurch 1 2", -1);
        edge.refused("lurch 3 2", -1);
        edge.refused("lurch 3 0", -13);
        edge.refused("gauges 0 10 0", -1);
        edge.refused("gauges 0 0 2", -1);
        edge.refused("gauges 1 10 0", -1);
        edge.refused("put 0 -1 0", -11);
        edge.refused("put 1 -1 0", -12);
        // Told: -1, -11 (either), -12 (no ROWS of one SORT), -13.
        edge.refused("copy 0 0 8 0 -1", -1);
        edge.refused("copy 8 0 0 0 -1", -1);
        edge.refused("copy 1 0 0 0 -1", -11);
        edge.refused("copy 0 0 1 0 -1", -11);
        edge.refused("copy 2 0 3 0 -1", -12);
        edge.refused("copy 2 0 1 0 -1", -12);
        edge.refused("copy 2 0 2 0 -1", -13);
        // Told: -1 (n above 100); -14.
        edge.refused("row 8 0 -1", -1);
        edge.refused("row 0 3 -1", -1);
        edge.asks("element 8 -1", Calls.NO_SHELF);
        edge.anew();
        edge.refused("generations 0 1 0", -1);
        edge.refused("generations 1 1 2", -1);
        edge.refused("generations 1 1 0", -3);
    }

    private static void longs() {
        edge.says("Of longs they are 1000000000 less them (-1 is told as 1000000001).");
        edge.town("p00;p10;b0001;");
        edge.refused("night 0 0 2 0", 1000000001L);
        edge.refused("night 1 1 2 1", 1000000001L);
        edge.refusedOf("night # 1 2 0", 1000000001L, -1, 2, Edges.LEAST, Edges.MOST);
        edge.refusedOf("night 0 # 2 0", 1000000001L, -1, 2, Edges.LEAST, Edges.MOST);
        edge.refusedOf("night 0 1 # 0", 1000000001L, -1, 0, 1, 21, Edges.LEAST, Edges.MOST);
        edge.refusedOf("night 0 1 2 #", 1000000001L, -1, 2, Edges.LEAST, Edges.MOST);
        edge.refusedOf("mean #", 1000000001L, -1, 2, Edges.LEAST, Edges.MOST);
    }
}
