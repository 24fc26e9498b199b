/** Rubber bands hold families: a town of people and the bands put round two of them. */
public final class RubberBandsHoldFamilies {
    private static final int MAX_PEOPLE = 7;
    private static final int MAX_BANDS = 10;
    private static final int LAST_PLACE = 30;
    private static final int LAST_COLD = 9;
    private static final int LAST_FIGURE = 9;
    private static final int LAST_YEAR = 999;
    private static final int MOST_YEARS = 60;
    /** What AGE and STUNG never go above. */
    private static final int MOST_COUNTED = 99;

    /** Above every sum of pulls and every count of bands. */
    private static final int MORE_THAN_ANY = 1000000;

    private static final int SHELVES = 8;
    private static final int ROW_ROOM = 100;

    private static final int NO_SUCH = -1;
    private static final int NO_ROOM = -2;
    private static final int NOT_AS_IT_MUST_BE = -3;
    private static final int NONE = -4;
    private static final int NOTHING_HELD = -11;
    private static final int OTHER_KIND = -12;
    private static final int NO_SUCH_PLACE = -13;
    private static final int BELOW_ZERO = -14;
    private static final int NO_FAILURE = -15;
    /** A refusal of a long is told as this less the refusal. */
    private static final long LONG_REFUSALS = 1000000000L;
    private static final int FORM_FAULT = -1000;
    private static final int STATEMENT_FAULT = -2000;

    private final Town now = new Town();
    private final Town mind = new Town();
    private final Town image = new Town();
    private final Roads roads = new Roads(now, mind);
    private final Years yearsOn = new Years(now, mind);
    private final Tangles tangles = new Tangles(now);
    private final Clans kin = new Clans(now);
    private final Guesses guesses = new Guesses(now, mind);
    private final Goings goings = new Goings(now, mind);
    private final Shelf[] shelves = new Shelf[SHELVES];
    private boolean hasImage;

    public RubberBandsHoldFamilies() {
        for (int d = 0; d < SHELVES; d++) {
            shelves[d] = new Shelf();
        }
    }

    // ---- the town as told

    public int town(int d) {
        int refusal = rowRefusal(d);
        if (refusal != 0) {
            return refusal;
        }
        Shelf text = shelves[d];
        if (text.sort != Shelf.BYTES) {
            return OTHER_KIND;
        }
        int fault = TownText.formFault(text);
        if (fault != TownText.NO_FAULT) {
            return FORM_FAULT - fault;
        }
        // The statements are tried in mind, so that one that fails leaves nothing behind.
        mind.becomes(now);
        int statements = 0;
        for (int at = 0; at < text.length; at++) {
            if (TownText.digitsBehind(text.at(at)) == 0) {
                continue;
            }
            if (!TownText.happens(text, at, mind)) {
                return STATEMENT_FAULT - at;
            }
            statements++;
        }
        now.becomes(mind);
        return statements;
    }

    public int person(int p, int what) {
        if (!now.isPerson(p)) {
            return NO_SUCH;
        }
        switch (what) {
            case 0: return now.place[p];
            case 1: return now.stung[p];
            case 2: return now.pulled(p, -1);
            case 3: return now.pulled(p, 1);
            default: return NO_SUCH;
        }
    }

    public int band(int b, int what) {
        if (!now.isBand(b)) {
            return NO_SUCH;
        }
        switch (what) {
            case 0: return now.kind[b];
            case 1: return now.figure[b];
            case 2: return now.oneEnd[b];
            case 3: return now.otherEnd[b];
            case 4: return now.age[b];
            case 5: return now.isSnapped(b) ? 1 : 0;
            case 6: return now.stretch(b);
            case 7: return now.pull(b);
            case 8: return now.holdsAt(b, now.age[b], now.cold);
            default: return NO_SUCH;
        }
    }

    public int comes(int place) {
        if (!isUpTo(place, LAST_PLACE)) {
            return NO_SUCH;
        }
        return now.people < MAX_PEOPLE ? now.addPerson(place) : NO_ROOM;
    }

    public int ties(int d, int a, int b) {
        if (!isShelf(d) || !now.areTwo(a, b)) {
            return NO_SUCH;
        }
        int refusal = kindRefusal(d);
        if (refusal != 0) {
            return refusal;
        }
        if (now.bands >= MAX_BANDS) {
            return NO_ROOM;
        }
        return now.addBand(shelves[d].kind, shelves[d].figure, a, b);
    }

    public int goes(int p, int place) {
        if (!now.isPerson(p) || !isUpTo(place, LAST_PLACE)) {
            return NO_SUCH;
        }
        return now.moves(p, place);
    }

    public int cold(int v) {
        return isUpTo(v, LAST_COLD) ? now.chills(v) : NO_SUCH;
    }

    public int years(int n) {
        if (n < 1 || n > MOST_YEARS) {
            return NO_SUCH;
        }
        if (now.year + n > LAST_YEAR) {
            return NOT_AS_IT_MUST_BE;
        }
        int before = now.snappedCount();
        now.passYears(n);
        return now.snappedCount() - before;
    }

    public int cuts(int b) {
        if (!now.isBand(b)) {
            return NO_SUCH;
        }
        if (now.isSnapped(b)) {
            return NOT_AS_IT_MUST_BE;
        }
        now.snapped |= 1 << b;
        return now.snappedCount();
    }

    // ---- where one may go, years on

    public int mayGo(int p, int what) {
        if (!now.isPerson(p) || !isUpTo(what, 1)) {
            return NO_SUCH;
        }
        return roads.endOfTheRoad(p, what == 0 ? -1 : 1);
    }

    public int rest(int p) {
        return now.isPerson(p) ? roads.restingPlace(p) : NO_SUCH;
    }

    public int placeIn(int p, int n) {
        if (!now.isPerson(p) || !isUpTo(n, MOST_YEARS)) {
            return NO_SUCH;
        }
        return yearsOn.townIn(n).place[p];
    }

    public int snappedIn(int n) {
        return isUpTo(n, MOST_YEARS) ? yearsOn.townIn(n).snapped : NO_SUCH;
    }

    public int still() {
        return yearsOn.yearsToStillness();
    }

    public int firstSnap(int what) {
        return isUpTo(what, 1) ? yearsOn.firstToSnap(what == 0) : NO_SUCH;
    }

    // ---- Christmas, tangles

    public int christmas(int what) {
        switch (what) {
            case 0: return roads.meetingPlace();
            case 1: return roads.farTo(roads.meetingPlace());
            case 2: return roads.snappedByMeeting();
            default: return NO_SUCH;
        }
    }

    public int order(int i) {
        if (i < -1 || i >= now.people) {
            return NO_SUCH;
        }
        roads.weighOrders();
        return i < 0 ? roads.fewestSnapped() : roads.inOrder(i);
    }

    public int letGo(int p, int place) {
        if (!now.isPerson(p) || !isUpTo(place, LAST_PLACE)) {
            return NO_SUCH;
        }
        return roads.snappedByGoing(p, place);
    }

    public int crossing(int what) {
        switch (what) {
            case 0: return tangles.howMany();
            case 1: return tangles.firstTwo();
            default: return NO_SUCH;
        }
    }

    public int untangle() {
        return tangles.fewestInTheWay();
    }

    // ---- clans

    public int clans(int what) {
        switch (what) {
            case 0: return kin.howMany();
            case 1: return kin.greatest();
            default: return NO_SUCH;
        }
    }

    public int cousins(int a, int b) {
        return now.areTwo(a, b) ? kin.bandsBetween(a, b) : NO_SUCH;
    }

    public int bridges() {
        return kin.dividing();
    }

    public int renew(int n, int what) {
        if (!isUpTo(n, 4) || !isUpTo(what, 1)) {
            return NO_SUCH;
        }
        int chosen = guesses.bestRenewed(n);
        return what == 0 ? chosen : guesses.spareWith(chosen);
    }

    public int frost(int what) {
        return isUpTo(what, 1) ? guesses.firstFrost(what == 0) : NO_SUCH;
    }

    // ---- what is gone, what it is

    public int lurch(int d, int what) {
        if (!isShelf(d) || !isUpTo(what, 1)) {
            return NO_SUCH;
        }
        int refusal = rowRefusal(d);
        if (refusal != 0) {
            return refusal;
        }
        if (shelves[d].length > now.people) {
            return NO_SUCH_PLACE;
        }
        int bits = guesses.goneBy(shelves[d]);
        return what == 0 ? bits : Integer.bitCount(bits);
    }

    public int gauges(int d, int f, int what) {
        if (!isShelf(d) || !isUpTo(f, LAST_FIGURE) || !isUpTo(what, 1)) {
            return NO_SUCH;
        }
        int refusal = rowRefusal(d);
        if (refusal != 0) {
            return refusal;
        }
        int bits = guesses.kindsPullingAs(shelves[d], f);
        return what == 0 ? bits : Integer.bitCount(bits);
    }

    public int two(int a, int b) {
        if (!now.areTwo(a, b)) {
            return NO_SUCH;
        }
        if (now.place[a] == now.place[b]) {
            return NOT_AS_IT_MUST_BE;
        }
        return guesses.restingChoices(a, b);
    }

    public long night(int a, int b, int t, int part) {
        if (!now.areTwo(a, b) || t < 2 || t > 20 || !isUpTo(part, 1)) {
            return LONG_REFUSALS - NO_SUCH;
        }
        return partOfFraction(kin.waysStillTied(a, b, t), kin.allWays(t), part);
    }

    public long mean(int part) {
        if (!isUpTo(part, 1)) {
            return LONG_REFUSALS - NO_SUCH;
        }
        int whole = now.bands - now.snappedCount();
        return partOfFraction(now.stretchOfWhole(), whole < 1 ? 1 : whole, part);
    }

    public int farthest(int what) {
        return isUpTo(what, 1) ? roads.farthestTwo(what == 0) : NO_SUCH;
    }

    // ---- told goings, told years

    public int forged(int d) {
        int refusal = rowRefusal(d);
        if (refusal != 0) {
            return refusal;
        }
        return goings.areGoings(shelves[d]) ? goings.firstSnapping(shelves[d]) : NO_SUCH_PLACE;
    }

    public int judge(int d) {
        int refusal = rowRefusal(d);
        return refusal != 0 ? refusal : yearsOn.firstUntrue(shelves[d]);
    }

    public int generations(int n, int z, int what) {
        if (n < 1 || n > 20 || !isUpTo(what, 1)) {
            return NO_SUCH;
        }
        if (now.people < 1) {
            return NOT_AS_IT_MUST_BE;
        }
        return goings.harmOf(n, z, what == 0);
    }

    // ---- the image, what is told

    public int image() {
        image.becomes(now);
        hasImage = true;
        return now.year;
    }

    public int restore() {
        if (!hasImage) {
            return NOT_AS_IT_MUST_BE;
        }
        now.becomes(image);
        return now.year;
    }

    public int count(int what) {
        switch (what) {
            case 0: return now.people;
            case 1: return now.bands;
            case 2: return now.year;
            case 3: return now.cold;
            case 4: return now.snapped;
            case 5: return now.allStung();
            case 6: return now.allPull();
            default: return NO_SUCH;
        }
    }

    // ---- shelves

    public int keep(int d, int what, int k, int figure) {
        if (!isShelf(d) || !isUpTo(what, 1)) {
            return NO_SUCH;
        }
        if (what == 0) {
            shelves[d].held = Shelf.NOTHING;
            return 0;
        }
        if (!isUpTo(k, Kinds.LAST) || !isUpTo(figure, LAST_FIGURE)) {
            return NO_SUCH;
        }
        shelves[d].keepKind(k, figure);
        return 0;
    }

    public int row(int d, int sort, int n) {
        if (!isShelf(d) || !isUpTo(sort, Shelf.INTS) || n > ROW_ROOM) {
            return NO_SUCH;
        }
        if (n < 0) {
            return BELOW_ZERO;
        }
        shelves[d].keepRow(sort, n);
        return 0;
    }

    public int put(int d, int i, int v) {
        int refusal = rowRefusal(d);
        if (refusal != 0) {
            return refusal;
        }
        if (!shelves[d].hasPlace(i)) {
            return NO_SUCH_PLACE;
        }
        shelves[d].take(i, v);
        return 0;
    }

    public long element(int d, int i) throws IllegalArgumentException, IllegalStateException {
        if (!isShelf(d)) {
            throw new IllegalArgumentException("no such shelf");
        }
        if (shelves[d].held != Shelf.ROW || !shelves[d].hasPlace(i)) {
            throw new IllegalStateException("no row, or no such place in it");
        }
        return shelves[d].at(i);
    }

    public int copy(int d, int i, int e, int j, int n) {
        if (!isShelf(d) || !isShelf(e)) {
            return NO_SUCH;
        }
        Shelf from = shelves[d];
        Shelf to = shelves[e];
        if (from.held == Shelf.NOTHING || to.held == Shelf.NOTHING) {
            return NOTHING_HELD;
        }
        if (from.held != Shelf.ROW || to.held != Shelf.ROW || from.sort != to.sort) {
            return OTHER_KIND;
        }
        if (n < 0 || !from.hasPart(i, n) || !to.hasPart(j, n)) {
            return NO_SUCH_PLACE;
        }
        System.arraycopy(from.elements, i, to.elements, j, n);
        return n;
    }

    public int cost(int d) {
        int refusal = kindRefusal(d);
        return refusal != 0 ? refusal : Kinds.costs(shelves[d].kind, shelves[d].figure);
    }

    public int toss(int d) {
        int refusal = kindRefusal(d);
        if (refusal != 0) {
            return refusal;
        }
        int kind = shelves[d].kind;
        int figure = shelves[d].figure;
        try {
            Kinds.fail(kind, figure);
        } catch (UnsupportedOperationException twins) {
            return 200 + Kinds.costs(kind, figure);
        } catch (IllegalArgumentException marriage) {
            return 100 + figure;
        } catch (IllegalStateException band) {
            return figure;
        }
        return NO_FAILURE;
    }

    // ---- what the calls share

    private static boolean isUpTo(int n, int most) {
        return n >= 0 && n <= most;
    }

    /** The number of the lowest bit of some; -4 of none. */
    private static int lowestOf(int bits) {
        for (int i = 0; i < 32; i++) {
            if ((bits >> i & 1) == 1) {
                return i;
            }
        }
        return NONE;
    }

    private static boolean isShelf(int d) {
        return d >= 0 && d < SHELVES;
    }

    private int rowRefusal(int d) {
        return heldRefusal(d, Shelf.ROW);
    }

    private int kindRefusal(int d) {
        return heldRefusal(d, Shelf.KIND);
    }

    /** Why shelf d does not hold what is wanted; 0 if it does. */
    private int heldRefusal(int d, int wanted) {
        if (!isShelf(d)) {
            return NO_SUCH;
        }
        if (shelves[d].held == Shelf.NOTHING) {
            return NOTHING_HELD;
        }
        return shelves[d].held == wanted ? 0 : OTHER_KIND;
    }

    /** What is above (part 0) or below the line of a fraction in least terms. */
    private static long partOfFraction(long above, long below, int part) {
        long divisor = below;
        long left = above;
        // Euclid needs fewer than a hundred steps for any two longs.
        for (int i = 0; i < 100 && left != 0; i++) {
            long next = divisor % left;
            divisor = left;
            left = next;
        }
        long whole = part == 0 ? above : below;
        return divisor > 0 ? whole / divisor : whole;
    }

    /** The kinds of bands, each told by what the one it is under has. */
    private static final class Kinds {
        static final int MARRIAGE = 1;
        static final int TWINS = 2;
        static final int RED = 3;
        static final int KNOT = 4;
        static final int WIDOW = 5;
        static final int INLAW = 6;
        static final int FEUD = 7;
        static final int LAST = 7;

        static int slack(int kind, int figure) {
            int band = figure + 2;
            int marriage = band / 2;
            switch (kind) {
                case MARRIAGE: return marriage;
                case TWINS: return marriage + 1;
                case RED: return figure;
                case KNOT: return band - 1;
                case WIDOW: return 0;
                case INLAW: return band + 4;
                case FEUD: return 2 * figure;
                default: return band;
            }
        }

        static int gauge(int kind) {
            int band = 1;
            int marriage = band + 1;
            switch (kind) {
                case MARRIAGE: return marriage;
                case TWINS: return marriage + 1;
                case KNOT: return band + 2;
                case WIDOW: return marriage;
                case FEUD: return 4;
                default: return band;
            }
        }

        static int holds(int kind, int figure) {
            int band = figure + 8;
            int marriage = band + 4;
            int red = 3;
            switch (kind) {
                case MARRIAGE: return marriage;
                case TWINS: return 2 * marriage;
                case RED: return red;
                case KNOT: return band / 2;
                case WIDOW: return 30;
                case FEUD: return red + 2;
                default: return band;
            }
        }

        static int costs(int kind, int figure) {
            int band = 2;
            int marriage = band + figure;
            int red = 1;
            switch (kind) {
                case MARRIAGE: return marriage;
                case TWINS: return 2 * marriage;
                case RED: return red;
                case KNOT: return band + 3;
                case WIDOW: return marriage - 2;
                case INLAW: return band + 5;
                case FEUD: return red + figure;
                default: return band;
            }
        }

        /** How far one is stretched whose ends are so far apart. */
        static int stretch(int kind, int figure, int apart) {
            int stretch = apart - slack(kind, figure);
            return stretch > 0 ? stretch : 0;
        }

        /** How one pulls, not snapped, whose ends are so far apart. */
        static int pull(int kind, int figure, int apart) {
            return stretch(kind, figure, apart) * gauge(kind);
        }

        /** Throws the failure of a band, if it has one: whose it is tells the exception's class. */
        static void fail(int kind, int figure) {
            if (figure == 0 || kind == RED || kind == FEUD) {
                return;
            }
            if (kind == TWINS) {
                throw new UnsupportedOperationException("twins");
            }
            if (kind == MARRIAGE || kind == WIDOW) {
                throw new IllegalArgumentException("a marriage");
            }
            throw new IllegalStateException("a band");
        }
    }

    /** A shelf; its row's elements are made once and used again. */
    private static final class Shelf {
        static final int NOTHING = 0;
        static final int KIND = 1;
        static final int ROW = 2;
        static final int BYTES = 0;
        static final int SHORTS = 1;
        static final int INTS = 2;
        private static final int LEAST_BYTE = -128;
        private static final int LEAST_SHORT = -32768;
        private static final int LEAST_INT = -2147483648;

        final int[] elements = new int[ROW_ROOM];
        int held;
        int kind;
        int figure;
        int sort;
        int length;

        void keepKind(int newKind, int newFigure) {
            held = KIND;
            kind = newKind;
            figure = newFigure;
        }

        void keepRow(int newSort, int newLength) {
            held = ROW;
            sort = newSort;
            length = newLength;
            for (int i = 0; i < ROW_ROOM; i++) {
                elements[i] = 0;
            }
        }

        boolean hasPlace(int i) {
            return i >= 0 && i < length;
        }

        boolean hasPart(int from, int n) {
            return from >= 0 && from <= length && n <= length - from;
        }

        int at(int i) {
            return hasPlace(i) ? elements[i] : 0;
        }

        void take(int i, int v) {
            if (hasPlace(i)) {
                elements[i] = sort == BYTES ? (byte) v : sort == SHORTS ? (short) v : v;
            }
        }

        /** Element i is the least number of its sort: it tells nothing. */
        boolean isSkipped(int i) {
            int least = sort == BYTES ? LEAST_BYTE : sort == SHORTS ? LEAST_SHORT : LEAST_INT;
            return at(i) == least;
        }
    }

    /** All that there is but the shelves, and how it goes on. */
    private static final class Town {
        final int[] place = new int[MAX_PEOPLE];
        final int[] stung = new int[MAX_PEOPLE];
        /** RIGHT less LEFT of each, when it was last weighed. */
        final int[] lean = new int[MAX_PEOPLE];
        final int[] kind = new int[MAX_BANDS];
        final int[] figure = new int[MAX_BANDS];
        final int[] oneEnd = new int[MAX_BANDS];
        final int[] otherEnd = new int[MAX_BANDS];
        final int[] age = new int[MAX_BANDS];
        /** What a band has by its kind and figure: worked out once, as they never change. */
        final int[] slack = new int[MAX_BANDS];
        final int[] gauge = new int[MAX_BANDS];
        final int[] holds = new int[MAX_BANDS];
        int people;
        int bands;
        /** A bit for each band that is snapped. */
        int snapped;
        int cold;
        int year;

        void becomes(Town other) {
            people = other.people;
            bands = other.bands;
            snapped = other.snapped;
            cold = other.cold;
            year = other.year;
            for (int p = 0; p < MAX_PEOPLE; p++) {
                place[p] = other.place[p];
                stung[p] = other.stung[p];
            }
            for (int b = 0; b < MAX_BANDS; b++) {
                kind[b] = other.kind[b];
                figure[b] = other.figure[b];
                oneEnd[b] = other.oneEnd[b];
                otherEnd[b] = other.otherEnd[b];
                age[b] = other.age[b];
                slack[b] = other.slack[b];
                gauge[b] = other.gauge[b];
                holds[b] = other.holds[b];
            }
        }

        boolean isPerson(int p) {
            return p >= 0 && p < people;
        }

        boolean areTwo(int a, int b) {
            return isPerson(a) && isPerson(b) && a != b;
        }

        boolean isBand(int b) {
            return b >= 0 && b < bands;
        }

        boolean isSnapped(int b) {
            return (snapped >> b & 1) == 1;
        }

        boolean isRound(int b, int p, int q) {
            return oneEnd[b] == p && otherEnd[b] == q || oneEnd[b] == q && otherEnd[b] == p;
        }

        int snappedCount() {
            return Integer.bitCount(snapped);
        }

        int apart(int p, int q) {
            return Math.abs(place[p] - place[q]);
        }

        int stretch(int b) {
            int way = place[oneEnd[b]] - place[otherEnd[b]];
            int over = (way < 0 ? -way : way) - slack[b];
            return over > 0 ? over : 0;
        }

        int pull(int b) {
            return isSnapped(b) ? 0 : stretch(b) * gauge[b];
        }

        /** HOLDS NOW of a band, if it were of that age in that cold. */
        int holdsAt(int b, int years, int frost) {
            int left = holds[b] - years / 5 - frost / 2;
            return left > 0 ? left : 0;
        }

        /** The bands that would be snapped, were all tried in that cold. */
        int overstretched(int frost) {
            int bits = 0;
            for (int b = 0; b < bands; b++) {
                if (!isSnapped(b) && stretch(b) > holdsAt(b, age[b], frost)) {
                    bits |= 1 << b;
                }
            }
            return bits;
        }

        /** Tries all bands; answers how many are snapped by it. */
        int tryAll() {
            int bits = overstretched(cold);
            for (int b = 0; b < bands; b++) {
                if ((bits >> b & 1) == 1) {
                    sting(oneEnd[b]);
                    sting(otherEnd[b]);
                }
            }
            snapped |= bits;
            return Integer.bitCount(bits);
        }

        void sting(int p) {
            if (stung[p] < MOST_COUNTED) {
                stung[p]++;
            }
        }

        /** The caller has looked that there is room. */
        int addPerson(int newPlace) {
            int p = people;
            place[p] = newPlace;
            stung[p] = 0;
            people++;
            return p;
        }

        /** The caller has looked that there is room. */
        int addBand(int newKind, int newFigure, int one, int other) {
            int b = bands;
            kind[b] = newKind;
            figure[b] = newFigure;
            oneEnd[b] = one;
            otherEnd[b] = other;
            age[b] = 0;
            slack[b] = Kinds.slack(newKind, newFigure);
            gauge[b] = Kinds.gauge(newKind);
            holds[b] = Kinds.holds(newKind, newFigure);
            bands++;
            tryAll();
            return b;
        }

        int moves(int p, int newPlace) {
            place[p] = newPlace;
            return tryAll();
        }

        int chills(int newCold) {
            cold = newCold;
            return tryAll();
        }

        void passYears(int n) {
            for (int i = 0; i < n; i++) {
                passYear();
            }
        }

        /** Answers whether anybody stepped or anything was snapped. */
        boolean passYear() {
            year++;
            for (int b = 0; b < bands; b++) {
                age[b] = Math.min(MOST_COUNTED, age[b] + 1);
            }
            int stirred = tryAll();
            weighLeans();
            stirred += stepAll();
            stirred += tryAll();
            return stirred > 0;
        }

        /** All step as they lean; answers how many did. */
        int stepAll() {
            int steps = 0;
            for (int p = 0; p < people; p++) {
                if (lean[p] != 0) {
                    place[p] += lean[p] > 0 ? 1 : -1;
                    steps++;
                }
            }
            return steps;
        }

        void weighLeans() {
            for (int p = 0; p < people; p++) {
                lean[p] = 0;
            }
            for (int b = 0; b < bands; b++) {
                int one = oneEnd[b];
                int other = otherEnd[b];
                // Ends at one place are never stretched, so either side will do for them.
                int pull = place[one] < place[other] ? pull(b) : -pull(b);
                lean[one] += pull;
                lean[other] -= pull;
            }
        }

        /** How one is pulled to the lesser places (side -1) or the greater ones (1). */
        int pulled(int p, int side) {
            int sum = 0;
            for (int b = 0; b < bands; b++) {
                int way = 0;
                if (oneEnd[b] == p) {
                    way = place[otherEnd[b]] - place[p];
                } else if (otherEnd[b] == p) {
                    way = place[oneEnd[b]] - place[p];
                }
                if (way * side > 0) {
                    sum += pull(b);
                }
            }
            return sum;
        }

        int allStung() {
            int sum = 0;
            for (int p = 0; p < people; p++) {
                sum += stung[p];
            }
            return sum;
        }

        int allPull() {
            int sum = 0;
            for (int b = 0; b < bands; b++) {
                sum += pull(b);
            }
            return sum;
        }

        int stretchOfWhole() {
            int sum = 0;
            for (int b = 0; b < bands; b++) {
                sum += isSnapped(b) ? 0 : stretch(b);
            }
            return sum;
        }
    }

    /** The text of a town in a row of bytes. */
    private static final class TownText {
        static final int NO_FAULT = -1;

        /** How many digits stand behind a letter; 0 if no statement begins with it. */
        static int digitsBehind(int letter) {
            switch (letter) {
                case 'p': return 2;
                case 'b': return 4;
                case 'g': return 3;
                case 'c': return 1;
                case 'y': return 2;
                case 'x': return 1;
                default: return 0;
            }
        }

        /** The place of the first byte with which no town can go on. */
        static int formFault(Shelf text) {
            boolean begins = true;
            int digits = 0;
            for (int at = 0; at < text.length; at++) {
                int sign = text.at(at);
                if (begins) {
                    digits = digitsBehind(sign);
                    if (digits == 0) {
                        return at;
                    }
                    begins = false;
                } else if (digits > 0) {
                    if (sign < '0' || sign > '9') {
                        return at;
                    }
                    digits--;
                } else {
                    if (sign != ';') {
                        return at;
                    }
                    begins = true;
                }
            }
            return begins && text.length > 0 ? NO_FAULT : text.length;
        }

        /** Does the statement whose letter stands there; false if it is not as it must be. */
        static boolean happens(Shelf text, int at, Town town) {
            switch (text.at(at)) {
                case 'p': return personComes(town, twoDigits(text, at + 1));
                case 'b': return bandComes(text, at, town);
                case 'g': return personGoes(town, digit(text, at + 1), twoDigits(text, at + 2));
                case 'c':
                    town.chills(digit(text, at + 1));
                    return true;
                case 'y': return yearsPass(town, twoDigits(text, at + 1));
                default: return bandIsCut(town, digit(text, at + 1));
            }
        }

        static int digit(Shelf text, int at) {
            return text.at(at) - '0';
        }

        static int twoDigits(Shelf text, int at) {
            return 10 * digit(text, at) + digit(text, at + 1);
        }

        static boolean personComes(Town town, int place) {
            if (!isUpTo(place, LAST_PLACE) || town.people >= MAX_PEOPLE) {
                return false;
            }
            town.addPerson(place);
            return true;
        }

        static boolean bandComes(Shelf text, int at, Town town) {
            int kind = digit(text, at + 1);
            int one = digit(text, at + 3);
            int other = digit(text, at + 4);
            if (!isUpTo(kind, Kinds.LAST) || !town.areTwo(one, other) || town.bands >= MAX_BANDS) {
                return false;
            }
            town.addBand(kind, digit(text, at + 2), one, other);
            return true;
        }

        static boolean personGoes(Town town, int p, int place) {
            if (!town.isPerson(p) || !isUpTo(place, LAST_PLACE)) {
                return false;
            }
            town.moves(p, place);
            return true;
        }

        static boolean yearsPass(Town town, int n) {
            if (n < 1 || n > MOST_YEARS || town.year + n > LAST_YEAR) {
                return false;
            }
            for (int i = 0; i < n; i++) {
                town.passYear();
            }
            return true;
        }

        static boolean bandIsCut(Town town, int b) {
            if (!town.isBand(b) || town.isSnapped(b)) {
                return false;
            }
            town.snapped |= 1 << b;
            return true;
        }
    }

    /** Where one may go, where all may meet, and in what order. */
    private static final class Roads {
        private final Town now;
        private final Town mind;
        /** How many bands p and q have between them that snap if p goes to the meeting place first. */
        private final int[][] firstBreaks = new int[MAX_PEOPLE][MAX_PEOPLE];
        /** By a bit for each who is there already: the fewest that the others' goings snap. */
        private final int[] fewest = new int[1 << MAX_PEOPLE];

        Roads(Town now, Town mind) {
            this.now = now;
            this.mind = mind;
        }

        /** The last place to a side that one may go to step by step without a band being snapped. */
        int endOfTheRoad(int p, int side) {
            mind.becomes(now);
            int reached = now.place[p];
            for (int steps = 1; steps <= LAST_PLACE; steps++) {
                int next = reached + side;
                if (!isUpTo(next, LAST_PLACE)) {
                    return reached;
                }
                mind.place[p] = next;
                if (mind.overstretched(mind.cold) != 0) {
                    return reached;
                }
                reached = next;
            }
            return reached;
        }

        int restingPlace(int p) {
            int first = endOfTheRoad(p, -1);
            int last = endOfTheRoad(p, 1);
            mind.becomes(now);
            int best = first;
            int leastApart = MORE_THAN_ANY;
            for (int at = first; at <= last; at++) {
                mind.place[p] = at;
                mind.weighLeans();
                int sidesApart = Math.abs(mind.lean[p]);
                if (sidesApart < leastApart) {
                    leastApart = sidesApart;
                    best = at;
                }
            }
            return best;
        }

        int snappedByGoing(int p, int place) {
            mind.becomes(now);
            mind.place[p] = place;
            return mind.overstretched(mind.cold);
        }

        /** How far it is from a place to all together. */
        int farTo(int place) {
            int sum = 0;
            for (int p = 0; p < now.people; p++) {
                sum += Math.abs(now.place[p] - place);
            }
            return sum;
        }

        int meetingPlace() {
            int best = 0;
            for (int at = 1; at <= LAST_PLACE; at++) {
                if (farTo(at) < farTo(best)) {
                    best = at;
                }
            }
            return best;
        }

        int snappedByMeeting() {
            int meeting = meetingPlace();
            mind.becomes(now);
            int sum = 0;
            for (int p = 0; p < mind.people; p++) {
                sum += mind.moves(p, meeting);
            }
            return sum;
        }

        /**
         * Weighs all orders of going to the meeting place. Whether a band is snapped on the way
         * hangs on nothing but which of its ends goes first: before, it is as now, and with both
         * ends there it is not stretched.
         */
        void weighOrders() {
            findFirstBreaks(meetingPlace());
            int all = (1 << now.people) - 1;
            for (int there = all; there >= 0; there--) {
                int least = there == all ? 0 : MORE_THAN_ANY;
                for (int p = 0; p < now.people; p++) {
                    if ((there >> p & 1) == 0) {
                        least = Math.min(least, snappedIfNext(there, p));
                    }
                }
                fewest[there] = least;
            }
        }

        int fewestSnapped() {
            return fewest[0];
        }

        /** The i-th of the first best order; the orders have been weighed. */
        int inOrder(int i) {
            int there = 0;
            int next = 0;
            for (int k = 0; k <= i; k++) {
                next = nextInOrder(there);
                there |= 1 << next;
            }
            return next;
        }

        private int nextInOrder(int there) {
            for (int p = 0; p < now.people; p++) {
                if ((there >> p & 1) == 0 && snappedIfNext(there, p) == fewest[there]) {
                    return p;
                }
            }
            return 0;
        }

        /** The fewest that are snapped from here on, if p goes next. */
        private int snappedIfNext(int there, int p) {
            int sum = fewest[there | 1 << p];
            for (int q = 0; q < now.people; q++) {
                if ((there >> q & 1) == 0) {
                    sum += firstBreaks[p][q];
                }
            }
            return sum;
        }

        private void findFirstBreaks(int meeting) {
            for (int p = 0; p < MAX_PEOPLE; p++) {
                for (int q = 0; q < MAX_PEOPLE; q++) {
                    firstBreaks[p][q] = 0;
                }
            }
            for (int b = 0; b < now.bands; b++) {
                if (!now.isSnapped(b)) {
                    int one = now.oneEnd[b];
                    int other = now.otherEnd[b];
                    firstBreaks[one][other] += breaksTo(b, now.place[other] - meeting);
                    firstBreaks[other][one] += breaksTo(b, now.place[one] - meeting);
                }
            }
        }

        /** 1 if a band can't be drawn so far, else 0. */
        private int breaksTo(int b, int way) {
            int stretch = Kinds.stretch(now.kind[b], now.figure[b], Math.abs(way));
            return stretch > now.holdsAt(b, now.age[b], now.cold) ? 1 : 0;
        }

        /** Which two are farthest apart, or how far. */
        int farthestTwo(boolean which) {
            int far = NONE;
            int pair = NONE;
            for (int p = 0; p < now.people; p++) {
                for (int q = p + 1; q < now.people; q++) {
                    if (now.apart(p, q) > far) {
                        far = now.apart(p, q);
                        pair = 10 * p + q;
                    }
                }
            }
            return which ? pair : far;
        }
    }

    /** The years to come, in mind: the last year there is does not matter. */
    private static final class Years {
        private final Town now;
        private final Town mind;

        Years(Town now, Town mind) {
            this.now = now;
            this.mind = mind;
        }

        Town townIn(int n) {
            mind.becomes(now);
            mind.passYears(n);
            return mind;
        }

        int yearsToStillness() {
            mind.becomes(now);
            for (int n = 0; n <= MOST_YEARS; n++) {
                if (!mind.passYear()) {
                    return n;
                }
            }
            return NONE;
        }

        /** The first year in which a band is snapped, or the least band that is. */
        int firstToSnap(boolean when) {
            mind.becomes(now);
            for (int n = 1; n <= MOST_YEARS; n++) {
                mind.passYear();
                if (mind.snapped != now.snapped) {
                    return when ? n : lowestOf(mind.snapped & ~now.snapped);
                }
            }
            return NONE;
        }

        /** The first number of years behind which not as many are snapped as told. */
        int firstUntrue(Shelf told) {
            mind.becomes(now);
            for (int n = 0; n < told.length; n++) {
                if (!told.isSkipped(n) && told.at(n) != mind.snappedCount()) {
                    return n;
                }
                mind.passYear();
            }
            return NONE;
        }
    }

    /** Bands that cross. */
    private static final class Tangles {
        private final Town now;
        /** By a band: a bit for each that it crosses. */
        private final int[] crossed = new int[MAX_BANDS];

        Tangles(Town now) {
            this.now = now;
        }

        int howMany() {
            findCrossed();
            int twice = 0;
            for (int b = 0; b < now.bands; b++) {
                twice += Integer.bitCount(crossed[b]);
            }
            return twice / 2;
        }

        int firstTwo() {
            findCrossed();
            for (int b = 0; b < now.bands; b++) {
                // One that crosses a lesser one would have been found with that.
                if (crossed[b] != 0) {
                    return 10 * b + lowestOf(crossed[b]);
                }
            }
            return NONE;
        }

        int fewestInTheWay() {
            findCrossed();
            int sets = 1 << now.bands;
            int best = sets - 1;
            for (int gone = 0; gone < sets; gone++) {
                if (Integer.bitCount(gone) < Integer.bitCount(best) && isUntangled(gone)) {
                    best = gone;
                }
            }
            return best;
        }

        private boolean isUntangled(int gone) {
            for (int b = 0; b < now.bands; b++) {
                if ((gone >> b & 1) == 0 && (crossed[b] & ~gone) != 0) {
                    return false;
                }
            }
            return true;
        }

        private void findCrossed() {
            for (int b = 0; b < now.bands; b++) {
                crossed[b] = 0;
                for (int c = 0; c < now.bands; c++) {
                    if (!now.isSnapped(b) && !now.isSnapped(c) && (reachesInto(b, c) || reachesInto(c, b))) {
                        crossed[b] |= 1 << c;
                    }
                }
            }
        }

        /** Band b begins before c, and ends within it. */
        private boolean reachesInto(int b, int c) {
            int within = now.place[now.oneEnd[c]];
            int end = now.place[now.otherEnd[c]];
            return least(b) < least(c) && least(c) < greatest(b) && greatest(b) < Math.max(within, end);
        }

        private int least(int b) {
            return Math.min(now.place[now.oneEnd[b]], now.place[now.otherEnd[b]]);
        }

        private int greatest(int b) {
            return Math.max(now.place[now.oneEnd[b]], now.place[now.otherEnd[b]]);
        }
    }

    /** Who is tied to whom by bands not snapped. */
    private static final class Clans {
        private final Town now;

        Clans(Town now) {
            this.now = now;
        }

        int howMany() {
            int seen = 0;
            int clans = 0;
            for (int p = 0; p < now.people; p++) {
                if ((seen >> p & 1) == 0) {
                    clans++;
                    seen |= clanOf(p, 0);
                }
            }
            return clans;
        }

        int greatest() {
            int most = 0;
            for (int p = 0; p < now.people; p++) {
                most = Math.max(most, Integer.bitCount(clanOf(p, 0)));
            }
            return most;
        }

        int bandsBetween(int a, int b) {
            int reached = 1 << a;
            for (int n = 1; n < now.people; n++) {
                reached = tiedTo(reached, 0);
                if ((reached >> b & 1) == 1) {
                    return n;
                }
            }
            return NONE;
        }

        int dividing() {
            int bits = 0;
            for (int b = 0; b < now.bands; b++) {
                int without = clanOf(now.oneEnd[b], 1 << b);
                if (!now.isSnapped(b) && (without >> now.otherEnd[b] & 1) == 0) {
                    bits |= 1 << b;
                }
            }
            return bits;
        }

        /** A bit for each in one's clan, if there were not those bands. */
        private int clanOf(int p, int without) {
            int clan = 1 << p;
            for (int n = 1; n < now.people; n++) {
                clan = tiedTo(clan, without);
            }
            return clan;
        }

        /** Those, and who is tied to one of them by one band. */
        private int tiedTo(int those, int without) {
            int more = those;
            for (int b = 0; b < now.bands; b++) {
                if (((now.snapped | without) >> b & 1) == 0) {
                    int ends = 1 << now.oneEnd[b] | 1 << now.otherEnd[b];
                    more |= (those & ends) != 0 ? ends : 0;
                }
            }
            return more;
        }

        /** All ways in which a night can end, as often as each counts. */
        long allWays(int t) {
            return power(t, now.bands - now.snappedCount());
        }

        /** Of those the ways by which two are in one clan still. */
        long waysStillTied(int a, int b, int t) {
            int labels = 0;
            for (int p = 0; p < now.people; p++) {
                labels |= p << 3 * p;
            }
            return waysTied(now, 0, labels, 1 << a | 1 << b, t);
        }

        /**
         * The ways of the bands from b on: one perishes in one way, stays in t less 1. Labels hold
         * three bits a person, and who has one label is in one clan.
         */
        private static long waysTied(Town town, int b, int labels, int pair, int t) {
            if (isOneClan(labels, pair)) {
                return power(t, town.bands - b - Integer.bitCount(town.snapped >> b));
            }
            if (b >= town.bands) {
                return 0;
            }
            long gone = waysTied(town, b + 1, labels, pair, t);
            if (town.isSnapped(b)) {
                return gone;
            }
            int one = labelOf(labels, town.oneEnd[b]);
            int other = labelOf(labels, town.otherEnd[b]);
            if (one == other) {
                return t * gone;
            }
            return gone + (t - 1) * waysTied(town, b + 1, merged(labels, one, other), pair, t);
        }

        private static boolean isOneClan(int labels, int pair) {
            int first = lowestOf(pair);
            int second = lowestOf(pair & pair - 1);
            return labelOf(labels, first) == labelOf(labels, second);
        }

        private static int labelOf(int labels, int p) {
            return labels >> 3 * p & 7;
        }

        private static int merged(int labels, int one, int other) {
            int all = labels;
            for (int p = 0; p < MAX_PEOPLE; p++) {
                if (labelOf(labels, p) == other) {
                    all = all & ~(7 << 3 * p) | one << 3 * p;
                }
            }
            return all;
        }

        private static long power(int t, int n) {
            long product = 1;
            for (int i = 0; i < n; i++) {
                product *= t;
            }
            return product;
        }
    }

    /** What would be if a band were new, gone, colder, of another kind; who steps away. */
    private static final class Guesses {
        private static final int STEP_GAIN = 3;

        private final Town now;
        private final Town mind;
        /** By a band: how much more it holds if it is made new. */
        private final int[] gain = new int[MAX_BANDS];

        Guesses(Town now, Town mind) {
            this.now = now;
            this.mind = mind;
        }

        int bestRenewed(int n) {
            int best = 0;
            int bestGain = 0;
            for (int b = 0; b < now.bands; b++) {
                gain[b] = now.holdsAt(b, 0, now.cold) - now.holdsAt(b, now.age[b], now.cold);
            }
            for (int bits = 0; bits < 1 << now.bands; bits++) {
                if (Integer.bitCount(bits) <= n && (bits & now.snapped) == 0 && gainOf(bits) > bestGain) {
                    best = bits;
                    bestGain = gainOf(bits);
                }
            }
            return best;
        }

        private int gainOf(int bits) {
            int sum = 0;
            for (int b = 0; b < now.bands; b++) {
                sum += (bits >> b & 1) == 1 ? gain[b] : 0;
            }
            return sum;
        }

        /** HOLDS NOW less STRETCH of all not snapped together, those made new. */
        int spareWith(int renewed) {
            int sum = 0;
            for (int b = 0; b < now.bands; b++) {
                if (!now.isSnapped(b)) {
                    int age = (renewed >> b & 1) == 1 ? 0 : now.age[b];
                    sum += now.holdsAt(b, age, now.cold) - now.stretch(b);
                }
            }
            return sum;
        }

        /** The least cold that snaps a band, or the least band that it snaps. */
        int firstFrost(boolean when) {
            for (int frost = 0; frost <= LAST_COLD; frost++) {
                int bits = now.overstretched(frost);
                if (bits != 0) {
                    return when ? frost : lowestOf(bits);
                }
            }
            return NONE;
        }

        /** The bands without which, each by itself, people lean as told. */
        int goneBy(Shelf told) {
            int bits = 0;
            mind.becomes(now);
            for (int b = 0; b < now.bands; b++) {
                if (!now.isSnapped(b)) {
                    mind.snapped = now.snapped | 1 << b;
                    mind.weighLeans();
                    bits |= leansAs(told) ? 1 << b : 0;
                }
            }
            return bits;
        }

        private boolean leansAs(Shelf told) {
            for (int p = 0; p < told.length && p < mind.people; p++) {
                if (!told.isSkipped(p) && told.at(p) != mind.lean[p]) {
                    return false;
                }
            }
            return true;
        }

        int kindsPullingAs(Shelf told, int figure) {
            int bits = 0;
            for (int kind = 0; kind <= Kinds.LAST; kind++) {
                bits |= pullsAs(told, kind, figure) ? 1 << kind : 0;
            }
            return bits;
        }

        private static boolean pullsAs(Shelf told, int kind, int figure) {
            for (int apart = 0; apart < told.length; apart++) {
                if (!told.isSkipped(apart) && told.at(apart) != Kinds.pull(kind, figure, apart)) {
                    return false;
                }
            }
            return true;
        }

        /** The first pair of choices by which neither has more by another choice alone. */
        int restingChoices(int a, int b) {
            for (int pair = 0; pair < 4; pair++) {
                int one = pair / 2;
                int other = pair % 2;
                if (hasMost(a, b, one, other) && hasMost(b, a, other, one)) {
                    return 10 * one + other;
                }
            }
            return NONE;
        }

        private boolean hasMost(int p, int q, int own, int others) {
            return has(p, q, own, others) >= has(p, q, 1 - own, others);
        }

        private int has(int p, int q, int own, int others) {
            int steps = stepsAway(p, q, own);
            return STEP_GAIN * steps - pullOfBoth(p, q, now.apart(p, q) + steps + stepsAway(q, p, others));
        }

        private int stepsAway(int p, int q, int choice) {
            int to = now.place[p] < now.place[q] ? now.place[p] - 1 : now.place[p] + 1;
            return isUpTo(to, LAST_PLACE) ? choice : 0;
        }

        private int pullOfBoth(int p, int q, int apart) {
            int sum = 0;
            for (int b = 0; b < now.bands; b++) {
                if (!now.isSnapped(b) && now.isRound(b, p, q)) {
                    sum += Kinds.pull(now.kind[b], now.figure[b], apart);
                }
            }
            return sum;
        }
    }

    /** Goings in mind: told ones, and drawn ones. */
    private static final class Goings {
        private static final int GOINGS_OF_A_GENERATION = 10;
        private static final int SIGN_BIT = 1 << 31;

        private final Town now;
        private final Town mind;
        private int seed;

        Goings(Town now, Town mind) {
            this.now = now;
            this.mind = mind;
        }

        /** Whole pairs of one that there is and a place that there is. */
        boolean areGoings(Shelf told) {
            for (int i = 0; i < told.length; i += 2) {
                if (!now.isPerson(told.at(i)) || !isUpTo(told.at(i + 1), LAST_PLACE)) {
                    return false;
                }
            }
            return told.length % 2 == 0;
        }

        /** The first pair by which a band is snapped; the pairs are goings. */
        int firstSnapping(Shelf told) {
            mind.becomes(now);
            for (int i = 0; i < told.length / 2; i++) {
                if (mind.moves(told.at(2 * i), told.at(2 * i + 1)) > 0) {
                    return i;
                }
            }
            return NONE;
        }

        /** What n generations snap, or how often they sting. */
        int harmOf(int n, int z, boolean snaps) {
            seed = z;
            int sum = 0;
            for (int i = 0; i < n; i++) {
                liveOne();
                sum += snaps ? mind.snappedCount() - now.snappedCount() : mind.allStung() - now.allStung();
            }
            return sum;
        }

        private void liveOne() {
            mind.becomes(now);
            for (int i = 0; i < GOINGS_OF_A_GENERATION; i++) {
                int p = drawBelow(mind.people);
                mind.moves(p, drawBelow(LAST_PLACE + 1));
            }
        }

        private int drawBelow(int n) {
            seed = seed * 1103515245 + 12345;
            return n > 0 ? (seed & ~SIGN_BIT) / 65536 % n : 0;
        }
    }
}
