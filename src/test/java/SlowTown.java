import java.math.BigInteger;
import java.util.ArrayList;
import java.util.List;

/**
 * The document once more, written for likeness to its words and not for speed: every question is
 * answered by trying all there is on copies. The runs test holds the program against it.
 */
final class SlowTown {
    static final class Person {
        int place;
        int stung;
    }

    static final class Band {
        int kind;
        int figure;
        Person one;
        Person other;
        int age;
        boolean snapped;

        int stretchAt(int apart) {
            return Math.max(0, apart - slack(kind, figure));
        }

        int stretch() {
            return stretchAt(Math.abs(one.place - other.place));
        }

        int pull() {
            return snapped ? 0 : stretch() * gauge(kind);
        }
    }

    final List<Person> people = new ArrayList<>();
    final List<Band> bands = new ArrayList<>();
    int cold;
    int year;

    // 0 BAND, 1 MARRIAGE, 2 TWINS, 3 RED, 4 KNOT, 5 WIDOW, 6 INLAW, 7 FEUD
    private static final int[] UNDER = {-1, 0, 1, 0, 0, 1, 0, 3};

    static int slack(int kind, int f) {
        return switch (kind) {
            case 0 -> f + 2;
            case 1 -> slack(0, f) / 2;
            case 2 -> slack(1, f) + 1;
            case 3 -> f;
            case 4 -> slack(0, f) - 1;
            case 5 -> 0;
            case 6 -> slack(0, f) + 4;
            case 7 -> 2 * slack(3, f);
            default -> throw new AssertionError();
        };
    }

    static int gauge(int kind) {
        return switch (kind) {
            case 0 -> 1;
            case 1 -> gauge(0) + 1;
            case 2 -> gauge(1) + 1;
            case 4 -> gauge(0) + 2;
            case 7 -> 4;
            default -> gauge(UNDER[kind]);
        };
    }

    static int holds(int kind, int f) {
        return switch (kind) {
            case 0 -> f + 8;
            case 1 -> holds(0, f) + 4;
            case 2 -> 2 * holds(1, f);
            case 3 -> 3;
            case 4 -> holds(0, f) / 2;
            case 5 -> 30;
            case 7 -> holds(3, f) + 2;
            default -> holds(UNDER[kind], f);
        };
    }

    static int price(int kind, int f) {
        return switch (kind) {
            case 0 -> 2;
            case 1 -> price(0, f) + f;
            case 2 -> 2 * price(1, f);
            case 3 -> 1;
            case 4 -> price(0, f) + 3;
            case 5 -> price(1, f) - 2;
            case 6 -> price(0, f) + 5;
            case 7 -> price(3, f) + f;
            default -> throw new AssertionError();
        };
    }

    static int failure(int kind, int f) {
        if (f == 0 || kind == 3 || kind == 7) {
            return -15;
        }
        if (kind == 2) {
            return 200 + price(kind, f);
        }
        return kind == 1 || kind == 5 ? 100 + f : f;
    }

    SlowTown twin() {
        SlowTown t = new SlowTown();
        for (Person p : people) {
            Person q = new Person();
            q.place = p.place;
            q.stung = p.stung;
            t.people.add(q);
        }
        for (Band b : bands) {
            Band c = new Band();
            c.kind = b.kind;
            c.figure = b.figure;
            c.one = t.people.get(people.indexOf(b.one));
            c.other = t.people.get(people.indexOf(b.other));
            c.age = b.age;
            c.snapped = b.snapped;
            t.bands.add(c);
        }
        t.cold = cold;
        t.year = year;
        return t;
    }

    boolean isOne(int p) {
        return p >= 0 && p < people.size();
    }

    int holdsNow(Band b) {
        return Math.max(0, holds(b.kind, b.figure) - b.age / 5 - cold / 2);
    }

    int tryAll() {
        int n = 0;
        for (Band b : bands) {
            if (!b.snapped && b.stretch() > holdsNow(b)) {
                b.snapped = true;
                b.one.stung = Math.min(99, b.one.stung + 1);
                b.other.stung = Math.min(99, b.other.stung + 1);
                n++;
            }
        }
        return n;
    }

    int snapped() {
        int n = 0;
        for (Band b : bands) {
            n += b.snapped ? 1 : 0;
        }
        return n;
    }

    int bits() {
        int bits = 0;
        for (int b = 0; b < bands.size(); b++) {
            bits |= bands.get(b).snapped ? 1 << b : 0;
        }
        return bits;
    }

    void addPerson(int place) {
        Person p = new Person();
        p.place = place;
        people.add(p);
    }

    void addBand(int kind, int figure, int a, int b) {
        Band band = new Band();
        band.kind = kind;
        band.figure = figure;
        band.one = people.get(a);
        band.other = people.get(b);
        bands.add(band);
        tryAll();
    }

    int go(int p, int place) {
        people.get(p).place = place;
        return tryAll();
    }

    int left(int p) {
        int sum = 0;
        for (Band b : bands) {
            Person me = people.get(p);
            if (b.one == me && b.other.place < me.place || b.other == me && b.one.place < me.place) {
                sum += b.pull();
            }
        }
        return sum;
    }

    int right(int p) {
        int sum = 0;
        for (Band b : bands) {
            Person me = people.get(p);
            if (b.one == me && b.other.place > me.place || b.other == me && b.one.place > me.place) {
                sum += b.pull();
            }
        }
        return sum;
    }

    /** Answers how many steps and snappings there were. */
    int year() {
        year++;
        for (Band b : bands) {
            b.age = Math.min(99, b.age + 1);
        }
        int n = tryAll();
        int[] steps = new int[people.size()];
        for (int p = 0; p < steps.length; p++) {
            steps[p] = Integer.compare(right(p), left(p));
        }
        for (int p = 0; p < steps.length; p++) {
            people.get(p).place += steps[p];
            n += Math.abs(steps[p]);
        }
        return n + tryAll();
    }

    SlowTown in(int years) {
        SlowTown t = twin();
        for (int i = 0; i < years; i++) {
            t.year();
        }
        return t;
    }

    int mayGo(int p, int side) {
        SlowTown t = twin();
        int at = people.get(p).place;
        while (at + side >= 0 && at + side <= 30 && t.go(p, at + side) == 0) {
            at += side;
        }
        return at;
    }

    int rest(int p) {
        int best = -1;
        int least = 0;
        for (int at = mayGo(p, -1); at <= mayGo(p, 1); at++) {
            SlowTown t = twin();
            t.people.get(p).place = at;
            int apart = Math.abs(t.left(p) - t.right(p));
            if (best < 0 || apart < least) {
                best = at;
                least = apart;
            }
        }
        return best;
    }

    int still() {
        for (int n = 0; n <= 60; n++) {
            if (in(n).year() == 0) {
                return n;
            }
        }
        return -4;
    }

    int firstSnap(int what) {
        for (int n = 1; n <= 60; n++) {
            int gone = in(n).bits() & ~bits();
            if (gone != 0) {
                return what == 0 ? n : Integer.numberOfTrailingZeros(gone);
            }
        }
        return -4;
    }

    int far(int place) {
        return people.stream().mapToInt(p -> Math.abs(p.place - place)).sum();
    }

    int meeting() {
        int best = 0;
        for (int at = 0; at <= 30; at++) {
            best = far(at) < far(best) ? at : best;
        }
        return best;
    }

    int christmas(int what) {
        if (what == 0) {
            return meeting();
        }
        if (what == 1) {
            return far(meeting());
        }
        List<Integer> all = new ArrayList<>();
        for (int p = 0; p < people.size(); p++) {
            all.add(p);
        }
        return snappedBy(all);
    }

    private int snappedBy(List<Integer> order) {
        SlowTown t = twin();
        int n = 0;
        for (int p : order) {
            n += t.go(p, meeting());
        }
        return n;
    }

    /** The first best order, and behind it how many it snaps. */
    List<Integer> order() {
        List<List<Integer>> all = new ArrayList<>();
        orders(new ArrayList<>(), all);
        List<Integer> best = null;
        int fewest = 0;
        for (List<Integer> order : all) {
            int n = snappedBy(order);
            if (best == null || n < fewest) {
                best = order;
                fewest = n;
            }
        }
        best.add(fewest);
        return best;
    }

    private void orders(List<Integer> begun, List<List<Integer>> all) {
        if (begun.size() == people.size()) {
            all.add(new ArrayList<>(begun));
        }
        for (int p = 0; p < people.size(); p++) {
            if (!begun.contains(p)) {
                begun.add(p);
                orders(begun, all);
                begun.remove(begun.size() - 1);
            }
        }
    }

    int letGo(int p, int place) {
        SlowTown t = twin();
        t.go(p, place);
        return t.bits() & ~bits();
    }

    private static int endsWithin(Band b, Band c) {
        int least = Math.min(c.one.place, c.other.place);
        int most = Math.max(c.one.place, c.other.place);
        int n = 0;
        n += least < b.one.place && b.one.place < most ? 1 : 0;
        n += least < b.other.place && b.other.place < most ? 1 : 0;
        return n;
    }

    private boolean cross(int b, int c) {
        Band one = bands.get(b);
        Band other = bands.get(c);
        return !one.snapped && !other.snapped && endsWithin(one, other) == 1 && endsWithin(other, one) == 1;
    }

    int crossing(int what) {
        int n = 0;
        int first = -4;
        for (int b = 0; b < bands.size(); b++) {
            for (int c = b + 1; c < bands.size(); c++) {
                if (cross(b, c)) {
                    n++;
                    first = first < 0 ? 10 * b + c : first;
                }
            }
        }
        return what == 0 ? n : first;
    }

    int untangle() {
        for (int n = 0; n <= bands.size(); n++) {
            for (int bits = 0; bits < 1 << bands.size(); bits++) {
                if (Integer.bitCount(bits) == n) {
                    SlowTown t = twin();
                    for (int b = 0; b < bands.size(); b++) {
                        t.bands.get(b).snapped |= (bits >> b & 1) == 1;
                    }
                    if (t.crossing(0) == 0) {
                        return bits;
                    }
                }
            }
        }
        throw new AssertionError();
    }

    /** By how many bands each is tied to one at fewest; -1 who isn't. */
    private int[] tied(int p) {
        int[] by = new int[people.size()];
        java.util.Arrays.fill(by, -1);
        by[p] = 0;
        List<Integer> queue = new ArrayList<>(List.of(p));
        for (int i = 0; i < queue.size(); i++) {
            for (Band b : bands) {
                int q = queue.get(i);
                Person me = people.get(q);
                if (!b.snapped && (b.one == me || b.other == me)) {
                    int r = people.indexOf(b.one == me ? b.other : b.one);
                    if (by[r] < 0) {
                        by[r] = by[q] + 1;
                        queue.add(r);
                    }
                }
            }
        }
        return by;
    }

    int clans(int what) {
        int n = 0;
        int most = 0;
        for (int p = 0; p < people.size(); p++) {
            int least = -1;
            int size = 0;
            int[] by = tied(p);
            for (int q = 0; q < by.length; q++) {
                if (by[q] >= 0) {
                    least = least < 0 ? q : least;
                    size++;
                }
            }
            n += least == p ? 1 : 0;
            most = Math.max(most, size);
        }
        return what == 0 ? n : most;
    }

    int cousins(int a, int b) {
        int by = tied(a)[b];
        return by < 0 ? -4 : by;
    }

    int bridges() {
        int bits = 0;
        for (int b = 0; b < bands.size(); b++) {
            SlowTown t = twin();
            Band band = t.bands.get(b);
            if (!band.snapped) {
                band.snapped = true;
                int one = t.people.indexOf(band.one);
                bits |= t.tied(one)[t.people.indexOf(band.other)] < 0 ? 1 << b : 0;
            }
        }
        return bits;
    }

    int renew(int n, int what) {
        int best = -1;
        int most = 0;
        for (int bits = 0; bits < 1 << bands.size(); bits++) {
            if (Integer.bitCount(bits) <= n && (bits & bits()) == 0) {
                SlowTown t = twin();
                int sum = 0;
                for (int b = 0; b < bands.size(); b++) {
                    Band band = t.bands.get(b);
                    band.age = (bits >> b & 1) == 1 ? 0 : band.age;
                    sum += band.snapped ? 0 : t.holdsNow(band) - band.stretch();
                }
                if (best < 0 || sum > most) {
                    best = bits;
                    most = sum;
                }
            }
        }
        return what == 0 ? best : most;
    }

    int frost(int what) {
        for (int c = 0; c <= 9; c++) {
            SlowTown t = twin();
            t.cold = c;
            t.tryAll();
            int gone = t.bits() & ~bits();
            if (gone != 0) {
                return what == 0 ? c : Integer.numberOfTrailingZeros(gone);
            }
        }
        return -4;
    }

    int lurch(long[] told, long skipped) {
        int bits = 0;
        for (int b = 0; b < bands.size(); b++) {
            if (bands.get(b).snapped) {
                continue;
            }
            SlowTown t = twin();
            t.bands.get(b).snapped = true;
            boolean so = true;
            for (int p = 0; p < told.length; p++) {
                so &= told[p] == skipped || told[p] == t.right(p) - t.left(p);
            }
            bits |= so ? 1 << b : 0;
        }
        return bits;
    }

    static int gauges(long[] told, long skipped, int f) {
        int bits = 0;
        for (int kind = 0; kind < 8; kind++) {
            boolean so = true;
            for (int apart = 0; apart < told.length; apart++) {
                int stretch = Math.max(0, apart - slack(kind, f));
                so &= told[apart] == skipped || told[apart] == (long) stretch * gauge(kind);
            }
            bits |= so ? 1 << kind : 0;
        }
        return bits;
    }

    int two(int a, int b) {
        for (int i = 0; i < 2; i++) {
            for (int j = 0; j < 2; j++) {
                if (has(a, b, i, j)[0] >= has(a, b, 1 - i, j)[0] && has(a, b, i, j)[1] >= has(a, b, i, 1 - j)[1]) {
                    return 10 * i + j;
                }
            }
        }
        return -4;
    }

    private int[] has(int a, int b, int i, int j) {
        SlowTown t = twin();
        Person p = t.people.get(a);
        Person q = t.people.get(b);
        int side = p.place < q.place ? -1 : 1;
        int[] has = new int[2];
        if (i == 1 && p.place + side >= 0 && p.place + side <= 30) {
            p.place += side;
            has[0] += 3;
        }
        if (j == 1 && q.place - side >= 0 && q.place - side <= 30) {
            q.place -= side;
            has[1] += 3;
        }
        for (Band band : t.bands) {
            if (band.one == p && band.other == q || band.one == q && band.other == p) {
                has[0] -= band.pull();
                has[1] -= band.pull();
            }
        }
        return has;
    }

    long night(int a, int b, int t, int part) {
        BigInteger ways = BigInteger.ZERO;
        BigInteger all = BigInteger.ZERO;
        for (int bits = 0; bits < 1 << bands.size(); bits++) {
            if ((bits & bits()) != bits()) {
                continue;
            }
            SlowTown twin = twin();
            int stay = 0;
            for (int i = 0; i < bands.size(); i++) {
                twin.bands.get(i).snapped = (bits >> i & 1) == 1;
                stay += 1 - (bits >> i & 1);
            }
            BigInteger way = BigInteger.valueOf(t - 1).pow(stay);
            all = all.add(way);
            ways = twin.tied(a)[b] >= 0 ? ways.add(way) : ways;
        }
        BigInteger divisor = ways.gcd(all);
        return (part == 0 ? ways : all).divide(divisor).longValueExact();
    }

    long mean(int part) {
        long sum = 0;
        long n = 0;
        for (Band b : bands) {
            sum += b.snapped ? 0 : b.stretch();
            n += b.snapped ? 0 : 1;
        }
        n = n == 0 ? 1 : n;
        long divisor = BigInteger.valueOf(sum).gcd(BigInteger.valueOf(n)).longValue();
        return (part == 0 ? sum : n) / divisor;
    }

    int farthest(int what) {
        int best = -4;
        int far = -4;
        for (int p = 0; p < people.size(); p++) {
            for (int q = p + 1; q < people.size(); q++) {
                int apart = Math.abs(people.get(p).place - people.get(q).place);
                if (apart > far) {
                    far = apart;
                    best = 10 * p + q;
                }
            }
        }
        return what == 0 ? best : far;
    }

    int forged(long[] told) {
        if (told.length % 2 == 1) {
            return -13;
        }
        for (int i = 0; i < told.length; i++) {
            if (told[i] < 0 || told[i] >= (i % 2 == 0 ? people.size() : 31)) {
                return -13;
            }
        }
        SlowTown t = twin();
        for (int i = 0; i < told.length; i += 2) {
            if (t.go((int) told[i], (int) told[i + 1]) > 0) {
                return i / 2;
            }
        }
        return -4;
    }

    int judge(long[] told, long skipped) {
        for (int n = 0; n < told.length; n++) {
            if (told[n] != skipped && told[n] != in(n).snapped()) {
                return n;
            }
        }
        return -4;
    }

    int stung() {
        return people.stream().mapToInt(p -> p.stung).sum();
    }

    int generations(int n, int z, int what) {
        int snaps = 0;
        int stings = 0;
        for (int i = 0; i < n; i++) {
            SlowTown t = twin();
            for (int k = 0; k < 10; k++) {
                z = z * 1103515245 + 12345;
                int p = (z & 0x7fffffff) / 65536 % people.size();
                z = z * 1103515245 + 12345;
                int place = (z & 0x7fffffff) / 65536 % 31;
                snaps += t.go(p, place);
            }
            stings += t.stung() - stung();
        }
        return what == 0 ? snaps : stings;
    }

    /** The statements of a text on this town; a fault leaves the town half made. */
    int text(long[] bytes) {
        StringBuilder text = new StringBuilder();
        for (long b : bytes) {
            text.append((char) (b & 0xff));
        }
        int statements = 0;
        int at = 0;
        List<Integer> letters = new ArrayList<>();
        do {
            int digits = at < text.length() ? "?cypgb".indexOf(text.charAt(at)) : 0;
            digits = digits == 5 ? 4 : digits == 4 ? 3 : digits == 3 || digits == 2 ? 2 : digits;
            digits = at < text.length() && text.charAt(at) == 'x' ? 1 : digits;
            if (digits <= 0) {
                return -1000 - at;
            }
            letters.add(at);
            at++;
            for (int i = 0; i < digits; i++, at++) {
                if (at >= text.length() || "0123456789".indexOf(text.charAt(at)) < 0) {
                    return -1000 - at;
                }
            }
            if (at >= text.length() || text.charAt(at) != ';') {
                return -1000 - at;
            }
            at++;
        } while (at < text.length());
        for (int letter : letters) {
            if (!does(text.substring(letter, text.indexOf(";", letter)))) {
                return -2000 - letter;
            }
            statements++;
        }
        return statements;
    }

    private boolean does(String said) {
        int first = said.charAt(1) - '0';
        int all = Integer.parseInt(said.substring(1));
        switch (said.charAt(0)) {
            case 'p':
                if (all > 30 || people.size() == 7) {
                    return false;
                }
                addPerson(all);
                return true;
            case 'b':
                int a = said.charAt(3) - '0';
                int b = said.charAt(4) - '0';
                if (first > 7 || !isOne(a) || !isOne(b) || a == b || bands.size() == 10) {
                    return false;
                }
                addBand(first, said.charAt(2) - '0', a, b);
                return true;
            case 'g':
                if (!isOne(first) || all % 100 > 30) {
                    return false;
                }
                go(first, all % 100);
                return true;
            case 'c':
                cold = first;
                tryAll();
                return true;
            case 'y':
                if (all < 1 || all > 60 || year + all > 999) {
                    return false;
                }
                for (int i = 0; i < all; i++) {
                    year();
                }
                return true;
            default:
                if (first >= bands.size() || bands.get(first).snapped) {
                    return false;
                }
                bands.get(first).snapped = true;
                return true;
        }
    }
}
