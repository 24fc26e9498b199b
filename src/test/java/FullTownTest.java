import java.util.ArrayList;
import java.util.List;

/** Towns with no room left, and rows of all that a shelf holds: every question, with every number in its range. */
public final class FullTownTest {
    private static final Due due = new Due();
    private static final int MOST_CALLS = 512;
    private static final int PEOPLE = 7;
    private static final int BANDS = 10;

    /** Of 7 people and 10 bands each; then some are aged, cut, or torn. */
    private static final String[] TOWNS = {
        "p10;p14;p20;p22;p11;p12;p13;b0001;b4512;b1023;b6901;b5913;b2002;b0930;b0104;b0256;b6946;",
        "p10;p14;p20;p22;p11;p12;p13;b0001;b4512;b1023;b6901;b5913;b2002;b0930;b0104;b0256;b6946;y20;c3;",
        "p00;p05;p10;p15;p20;p25;p30;b5001;b5012;b5023;b5034;b5045;b5056;b5006;b5013;b5024;b5035;",
        "p00;p05;p10;p15;p20;p25;p30;b0001;b0012;b0023;b0034;b0045;b0056;b5060;b3913;b7924;b2065;x0;x9;",
        "p15;p15;p15;p15;p15;p15;p15;b3001;b3012;b3023;b3034;b3045;b3056;b3060;b3946;b7746;b5046;g600;",
        "p30;p30;p30;p00;p00;p00;p00;b5064;b5063;b5062;b5061;b5060;b1954;b2943;b2932;b5021;b5065;y01;x9;"
    };

    public static void main(String[] args) {
        List<String> questions = questions();
        for (String town : TOWNS) {
            for (int from = 0; from < questions.size(); from += MOST_CALLS / 2) {
                ask(town, questions.subList(from, Math.min(questions.size(), from + MOST_CALLS / 2)));
            }
            ask(town, changes());
        }
        due.end("FullTownTest");
    }

    private static void ask(String town, List<String> calls) {
        RubberBandsHoldFamilies x = new RubberBandsHoldFamilies();
        SlowFamilies slow = new SlowFamilies();
        List<String> all = new ArrayList<>();
        all.add("row 0 0 " + town.length());
        for (int i = 0; i < town.length(); i++) {
            all.add("put 0 " + i + " " + (int) town.charAt(i));
        }
        all.add("town 0");
        all.add("count 0");
        all.add("count 1");
        all.addAll(calls);
        due.holds("no more calls than are promised", all.size() <= MOST_CALLS);
        for (String call : all) {
            due.is(0, town + " " + call, Calls.ask(x, call), slowly(slow, call));
        }
        due.holds("a full town: " + town, x.count(0) == PEOPLE && x.count(1) == BANDS);
    }

    private static long slowly(SlowFamilies slow, String call) {
        String[] said = call.split(" ");
        int[] g = new int[said.length - 1];
        for (int i = 0; i < g.length; i++) {
            g[i] = Integer.parseInt(said[i + 1]);
        }
        return slow.call(said[0], g);
    }

    private static List<String> questions() {
        List<String> all = new ArrayList<>();
        for (int p = 0; p < PEOPLE; p++) {
            each(all, "person " + p + " #", 0, 3);
            each(all, "mayGo " + p + " #", 0, 1);
            all.add("rest " + p);
            each(all, "placeIn " + p + " #", 0, 12);
            all.add("placeIn " + p + " 60");
            each(all, "letGo " + p + " #", 0, 30);
            for (int q = 0; q < PEOPLE; q++) {
                all.add("cousins " + p + " " + q);
                all.add("two " + p + " " + q);
                all.add("night " + p + " " + q + " " + (2 + p + q) + " 0");
                all.add("night " + p + " " + q + " 20 1");
            }
        }
        for (int b = 0; b < BANDS; b++) {
            each(all, "band " + b + " #", 0, 8);
        }
        each(all, "order #", -1, PEOPLE - 1);
        each(all, "snappedIn #", 0, 60);
        for (int n = 0; n <= 4; n++) {
            each(all, "renew " + n + " #", 0, 1);
        }
        for (String name : new String[] {"firstSnap", "crossing", "clans", "frost", "mean", "farthest"}) {
            each(all, name + " #", 0, 1);
        }
        each(all, "christmas #", 0, 2);
        each(all, "count #", 0, 6);
        all.addAll(List.of("still", "untangle", "bridges", "generations 20 1 0", "generations 20 -9 1"));
        return all;
    }

    /** What changes a full town, and what looks at it by a row of as many as there is room for. */
    private static List<String> changes() {
        List<String> all = new ArrayList<>(List.of("comes 3", "keep 1 1 0 9", "ties 1 0 1", "town 0", "image"));
        all.add("row 1 0 " + PEOPLE);
        each(all, "put 1 # -128", 0, PEOPLE - 1);
        each(all, "lurch 1 #", 0, 1);
        all.add("put 1 6 0");
        each(all, "lurch 1 #", 0, 1);
        all.add("row 2 2 100");
        each(all, "element 2 #", 99, 100);
        all.addAll(List.of("put 2 99 7", "put 2 100 7", "judge 2", "forged 2", "lurch 2 0", "gauges 2 0 0"));
        all.addAll(List.of("row 3 2 100", "copy 2 1 3 0 99", "copy 2 0 3 0 100", "copy 2 0 3 0 101", "copy 2 1 3 0 100"));
        all.addAll(List.of("element 3 98", "element 3 99", "cold 9", "goes 6 0", "goes 0 30", "years 60", "count 4", "count 5"));
        each(all, "cuts #", 0, BANDS);
        each(all, "person # 1", 0, PEOPLE - 1);
        all.addAll(List.of("count 4", "restore", "count 4", "comes 3", "years 60", "count 4", "restore", "count 5"));
        return all;
    }

    private static void each(List<String> all, String call, int first, int last) {
        for (int n = first; n <= last; n++) {
            all.add(call.replace("#", "" + n));
        }
    }
}
