import java.util.Arrays;

/** Long drawn runs of calls, good and bad, each answer held against the slow likeness of the document. */
public final class RunsTest {
    private static final int RUNS = 400;
    private static final int CALLS = 400;

    // A name, then what each argument is: D shelf, P one, B band, L place, W what (0 .. 1, or told behind), N anything.
    private static final String[] CALLED = {
        "town D", "town D", "person P w3", "band B w8", "comes L", "ties D P P", "ties D P P", "ties D P P",
        "goes P L", "cold w9", "years y", "cuts B", "mayGo P w1", "rest P", "placeIn P z", "snappedIn z", "still",
        "firstSnap w1", "christmas w2", "order o", "letGo P L", "crossing w1", "untangle", "clans w1",
        "cousins P P", "bridges", "renew w4 w1", "frost w1", "lurch D w1", "gauges D w9 w1", "two P P",
        "night P P t w1", "mean w1", "farthest w1", "forged D", "judge D", "generations g N w1", "image", "restore",
        "count w6", "keep D w1 w7 w9", "row D w2 r", "put D r N", "element D r", "copy D r D r r", "cost D", "toss D"
    };

    private long seed = 88172645463325252L;
    private int looked;
    private int wrong;

    private int below(int n) {
        seed ^= seed << 13;
        seed ^= seed >>> 7;
        seed ^= seed << 17;
        return (int) ((seed >>> 20) % n);
    }

    public static void main(String[] args) {
        RunsTest test = new RunsTest();
        for (int run = 0; run < RUNS && test.wrong < 20; run++) {
            test.run(run);
        }
        System.out.println("RunsTest: " + test.looked + " looked at, " + test.wrong + " wrong");
        if (test.wrong > 0) {
            System.exit(1);
        }
    }

    private void run(int run) {
        RubberBandsHoldFamilies x = new RubberBandsHoldFamilies();
        SlowFamilies slow = new SlowFamilies();
        if (run % 10 != 0) {
            foundATown(run, x, slow);
        }
        for (int i = 0; i < CALLS; i++) {
            if (below(60) == 0) {
                tellAText(run, x, slow);
            } else if (below(20) == 0) {
                tellARow(run, x, slow);
            } else if (run % 10 != 0 && below(12) == 0) {
                both(run, x, slow, "restore");
            } else {
                callOne(run, x, slow);
            }
        }
    }

    /** People near one another or not, with as many bands that hold as can be found, somewhat aged; its image. */
    private void foundATown(int run, RubberBandsHoldFamilies x, SlowFamilies slow) {
        int people = 2 + below(6);
        int first = below(12);
        int width = 4 + below(27 - first);
        int bands = below(3) == 0 ? below(11) : 7 + below(4);
        int lastedOut = below(4) == 0 ? 15 : 3;
        for (int p = 0; p < people; p++) {
            both(run, x, slow, "comes", first + below(width));
        }
        for (int tries = 0; tries < 60 && slow.t.bands.size() < bands; tries++) {
            int kind = below(8);
            int figure = below(10);
            int a = below(people);
            int b = below(people);
            int stretch = Math.abs(slow.t.people.get(a).place - slow.t.people.get(b).place) - SlowTown.slack(kind, figure);
            if (stretch <= SlowTown.holds(kind, figure)) {
                both(run, x, slow, "keep", 0, 1, kind, figure);
                both(run, x, slow, "ties", 0, a, b);
            }
            if (below(8) == 0) {
                both(run, x, slow, "years", 1 + below(lastedOut));
            }
        }
        if (below(3) == 0) {
            both(run, x, slow, "cold", below(4));
        }
        // Gone apart again as far as the bands let them, so that they are on the stretch.
        for (int i = 0; i < 3 * people; i++) {
            int p = below(people);
            both(run, x, slow, "goes", p, below(2) == 0 ? slow.t.mayGo(p, -1) : slow.t.mayGo(p, 1));
        }
        both(run, x, slow, "image");
    }

    private void callOne(int run, RubberBandsHoldFamilies x, SlowFamilies slow) {
        String[] said = CALLED[below(CALLED.length)].split(" ");
        boolean harms = said[0].equals("cuts") || said[0].equals("image") || said[0].equals("years");
        boolean isSlow = said[0].equals("order") && slow.t.people.size() > 5;
        if ((harms || isSlow) && below(5) != 0) {
            return;
        }
        int[] g = new int[said.length - 1];
        for (int i = 0; i < g.length; i++) {
            g[i] = below(25) == 0 ? wild() : drawn(said[i + 1], slow);
        }
        both(run, x, slow, said[0], g);
    }

    private int wild() {
        int[] all = {-1, -2, 7, 8, 10, 31, 60, 61, 100, 101, 1000, Integer.MAX_VALUE, Integer.MIN_VALUE};
        return all[below(all.length)];
    }

    private int drawn(String sort, SlowFamilies slow) {
        switch (sort.charAt(0)) {
            case 'D': return below(8);
            case 'P': return below(Math.max(1, slow.t.people.size()));
            case 'B': return below(Math.max(1, slow.t.bands.size()));
            case 'L': return below(31);
            case 'w': return below(sort.charAt(1) - '0' + 1);
            case 'y': return 1 + below(below(4) == 0 ? 60 : 5);
            case 'z': return below(61);
            case 'o': return below(slow.t.people.size() + 1) - 1;
            case 't': return 2 + below(19);
            case 'g': return 1 + below(20);
            case 'r': return below(below(2) == 0 ? 4 : 12);
            default: return below(3) == 0 ? below(1 << 30) * 4 - 17 : below(40) - 5;
        }
    }

    /** A text of likely statements, now and then with a byte of it spoilt. */
    private void tellAText(int run, RubberBandsHoldFamilies x, SlowFamilies slow) {
        int d = below(8);
        StringBuilder text = new StringBuilder();
        int statements = 1 + below(20);
        for (int i = 0; i < statements && text.length() < 94; i++) {
            boolean early = slow.t.people.size() < 2 && i < 4;
            String letter = early ? "p" : "" + "pbbbbbgcyx".charAt(below(10));
            text.append(statement(letter.charAt(0)));
        }
        int spoilt = below(3) == 0 ? below(text.length()) : -1;
        if (spoilt >= 0) {
            text.setCharAt(spoilt, "0123456789;pbgcyx!/:".charAt(below(20)));
        }
        if (below(12) == 0) {
            text.setLength(below(text.length()));
        }
        both(run, x, slow, "row", d, 0, text.length());
        for (int i = 0; i < text.length(); i++) {
            both(run, x, slow, "put", d, i, text.charAt(i));
        }
        both(run, x, slow, "town", d);
    }

    private String statement(char letter) {
        String place = String.format("%02d", below(31));
        switch (letter) {
            case 'p': return "p" + place + ";";
            case 'b': return "b" + below(8) + below(10) + below(5) + below(5) + ";";
            case 'g': return "g" + below(5) + place + ";";
            case 'c': return "c" + below(below(2) == 0 ? 3 : 10) + ";";
            case 'y': return "y" + String.format("%02d", 1 + below(below(3) == 0 ? 60 : 4)) + ";";
            default: return "x" + below(10) + ";";
        }
    }

    /** A row as one of the calls that take one would like it, told truly up to a place. */
    private void tellARow(int run, RubberBandsHoldFamilies x, SlowFamilies slow) {
        int d = below(8);
        int sort = below(3);
        int least = sort == 0 ? -128 : sort == 1 ? -32768 : Integer.MIN_VALUE;
        int likeness = below(4);
        int length = likeness == 1 ? below(slow.t.people.size() + 2) : below(16);
        length = likeness == 3 && below(5) == 0 ? 100 : length;
        int spoilt = below(3) == 0 ? below(16) : -1;
        int kind = below(8);
        int figure = below(10);
        SlowTown mind = slow.t.twin();
        if (likeness == 1 && mind.bands.size() > 0) {
            mind.bands.get(below(mind.bands.size())).snapped = true;
        }
        both(run, x, slow, "row", d, sort, length);
        for (int i = 0; i < length; i++) {
            int v = below(31);
            if (likeness == 0) {
                v = i % 2 == 0 ? below(Math.max(1, mind.people.size())) : below(31);
            } else if (likeness == 1 && i < mind.people.size()) {
                v = mind.right(i) - mind.left(i);
            } else if (likeness == 2) {
                v = Math.max(0, i - SlowTown.slack(kind, figure)) * SlowTown.gauge(kind);
            } else if (likeness == 3) {
                v = mind.snapped();
                mind.year();
            }
            v = i == spoilt ? v + 1 : v;
            both(run, x, slow, "put", d, i, below(6) == 0 && likeness > 0 ? least : v);
        }
        both(run, x, slow, "lurch", d, 0);
        both(run, x, slow, "gauges", d, figure, 0);
        both(run, x, slow, "forged", d);
        both(run, x, slow, "judge", d);
    }

    private void both(int run, RubberBandsHoldFamilies x, SlowFamilies slow, String name, int... g) {
        looked++;
        long want = slow.call(name, g);
        long got = Calls.ask(x, name, g);
        if (got != want) {
            wrong++;
            System.out.println("run " + run + ": " + name + Arrays.toString(g) + " answered " + got + ", due is " + want);
        }
    }
}
