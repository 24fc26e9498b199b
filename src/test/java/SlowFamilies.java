/** The face once more, over SlowTown: shelves, refusals and their order. */
final class SlowFamilies {
    private static final class Row {
        int sort;
        long[] elements;

        long skipped() {
            return sort == 0 ? -128 : sort == 1 ? -32768 : Integer.MIN_VALUE;
        }
    }

    SlowTown t = new SlowTown();
    private SlowTown image;
    /** Nothing (null), a kind and a figure (int[]), or a Row. */
    private final Object[] shelves = new Object[8];

    /** Answers a call of the face by its name; long refusals and exceptions are told as numbers too. */
    long call(String name, int... g) {
        switch (name) {
            case "comes":
                if (!in(g[0], 0, 30)) return -1;
                if (t.people.size() == 7) return -2;
                t.addPerson(g[0]);
                return t.people.size() - 1;
            case "goes": return t.isOne(g[0]) && in(g[1], 0, 30) ? t.go(g[0], g[1]) : -1;
            case "cold":
                if (!in(g[0], 0, 9)) return -1;
                t.cold = g[0];
                return t.tryAll();
            case "years": return years(g[0]);
            case "cuts":
                if (!in(g[0], 0, t.bands.size() - 1)) return -1;
                if (t.bands.get(g[0]).snapped) return -3;
                t.bands.get(g[0]).snapped = true;
                return t.snapped();
            case "image":
                image = t.twin();
                return t.year;
            case "restore":
                if (image == null) return -3;
                t = image.twin();
                return t.year;
            case "person": case "band": case "count": return told(name, g);
            case "mayGo": return t.isOne(g[0]) && in(g[1], 0, 1) ? t.mayGo(g[0], g[1] == 0 ? -1 : 1) : -1;
            case "rest": return t.isOne(g[0]) ? t.rest(g[0]) : -1;
            case "placeIn": return t.isOne(g[0]) && in(g[1], 0, 60) ? t.in(g[1]).people.get(g[0]).place : -1;
            case "snappedIn": return in(g[0], 0, 60) ? t.in(g[0]).bits() : -1;
            case "still": return t.still();
            case "firstSnap": return in(g[0], 0, 1) ? t.firstSnap(g[0]) : -1;
            case "christmas": return in(g[0], 0, 2) ? t.christmas(g[0]) : -1;
            case "order":
                if (!in(g[0], -1, t.people.size() - 1)) return -1;
                return t.order().get(g[0] < 0 ? t.people.size() : g[0]);
            case "letGo": return t.isOne(g[0]) && in(g[1], 0, 30) ? t.letGo(g[0], g[1]) : -1;
            case "crossing": return in(g[0], 0, 1) ? t.crossing(g[0]) : -1;
            case "untangle": return t.untangle();
            case "clans": return in(g[0], 0, 1) ? t.clans(g[0]) : -1;
            case "cousins": return areTwo(g[0], g[1]) ? t.cousins(g[0], g[1]) : -1;
            case "bridges": return t.bridges();
            case "renew": return in(g[0], 0, 4) && in(g[1], 0, 1) ? t.renew(g[0], g[1]) : -1;
            case "frost": return in(g[0], 0, 1) ? t.frost(g[0]) : -1;
            case "two":
                if (!areTwo(g[0], g[1])) return -1;
                return t.people.get(g[0]).place == t.people.get(g[1]).place ? -3 : t.two(g[0], g[1]);
            case "night":
                if (!areTwo(g[0], g[1]) || !in(g[2], 2, 20) || !in(g[3], 0, 1)) return 1000000001L;
                return t.night(g[0], g[1], g[2], g[3]);
            case "mean": return in(g[0], 0, 1) ? t.mean(g[0]) : 1000000001L;
            case "farthest": return in(g[0], 0, 1) ? t.farthest(g[0]) : -1;
            case "generations":
                if (!in(g[0], 1, 20) || !in(g[2], 0, 1)) return -1;
                return t.people.isEmpty() ? -3 : t.generations(g[0], g[1], g[2]);
            default: return withShelf(name, g);
        }
    }

    private static boolean in(int n, int least, int most) {
        return least <= n && n <= most;
    }

    private boolean areTwo(int a, int b) {
        return t.isOne(a) && t.isOne(b) && a != b;
    }

    private long years(int n) {
        if (!in(n, 1, 60)) return -1;
        if (t.year + n > 999) return -3;
        int before = t.snapped();
        for (int i = 0; i < n; i++) {
            t.year();
        }
        return t.snapped() - before;
    }

    private long told(String name, int[] g) {
        if (name.equals("person")) {
            if (!t.isOne(g[0]) || !in(g[1], 0, 3)) return -1;
            SlowTown.Person p = t.people.get(g[0]);
            return new int[] {p.place, p.stung, t.left(g[0]), t.right(g[0])}[g[1]];
        }
        if (name.equals("band")) {
            if (!in(g[0], 0, t.bands.size() - 1) || !in(g[1], 0, 8)) return -1;
            SlowTown.Band b = t.bands.get(g[0]);
            int one = t.people.indexOf(b.one);
            int other = t.people.indexOf(b.other);
            return new int[] {b.kind, b.figure, one, other, b.age, b.snapped ? 1 : 0, b.stretch(), b.pull(), t.holdsNow(b)}[g[1]];
        }
        int pull = 0;
        for (SlowTown.Band b : t.bands) {
            pull += b.pull();
        }
        int[] all = {t.people.size(), t.bands.size(), t.year, t.cold, t.bits(), t.stung(), pull};
        return in(g[0], 0, 6) ? all[g[0]] : -1;
    }

    private long withShelf(String name, int[] g) {
        boolean shelf = in(g[0], 0, 7);
        Object held = shelf ? shelves[g[0]] : null;
        Row row = held instanceof Row r ? r : null;
        int[] kind = held instanceof int[] k ? k : null;
        int rowRefusal = !shelf ? -1 : held == null ? -11 : row == null ? -12 : 0;
        int kindRefusal = !shelf ? -1 : held == null ? -11 : kind == null ? -12 : 0;
        switch (name) {
            case "town":
                if (rowRefusal != 0) return rowRefusal;
                return row.sort != 0 ? -12 : town(row);
            case "ties":
                if (!areTwo(g[1], g[2])) return -1;
                if (kindRefusal != 0) return kindRefusal;
                if (t.bands.size() == 10) return -2;
                t.addBand(kind[0], kind[1], g[1], g[2]);
                return t.bands.size() - 1;
            case "lurch":
                if (!in(g[1], 0, 1)) return -1;
                if (rowRefusal != 0) return rowRefusal;
                if (row.elements.length > t.people.size()) return -13;
                return told(t.lurch(row.elements, row.skipped()), g[1]);
            case "gauges":
                if (!in(g[1], 0, 9) || !in(g[2], 0, 1)) return -1;
                return rowRefusal != 0 ? rowRefusal : told(SlowTown.gauges(row.elements, row.skipped(), g[1]), g[2]);
            case "forged": return rowRefusal != 0 ? rowRefusal : t.forged(row.elements);
            case "judge": return rowRefusal != 0 ? rowRefusal : t.judge(row.elements, row.skipped());
            case "cost": return kindRefusal != 0 ? kindRefusal : SlowTown.price(kind[0], kind[1]);
            case "toss": return kindRefusal != 0 ? kindRefusal : SlowTown.failure(kind[0], kind[1]);
            case "put":
                if (rowRefusal != 0) return rowRefusal;
                if (!in(g[1], 0, row.elements.length - 1)) return -13;
                row.elements[g[1]] = row.sort == 0 ? (byte) g[2] : row.sort == 1 ? (short) g[2] : g[2];
                return 0;
            case "element":
                if (!shelf) return Calls.NO_SHELF;
                return row == null || !in(g[1], 0, row.elements.length - 1) ? Calls.NO_PLACE : row.elements[g[1]];
            case "keep":
                if (!shelf || !in(g[1], 0, 1) || g[1] == 1 && !(in(g[2], 0, 7) && in(g[3], 0, 9))) return -1;
                shelves[g[0]] = g[1] == 0 ? null : new int[] {g[2], g[3]};
                return 0;
            case "row":
                if (!shelf || !in(g[1], 0, 2) || g[2] > 100) return -1;
                if (g[2] < 0) return -14;
                Row made = new Row();
                made.sort = g[1];
                made.elements = new long[g[2]];
                shelves[g[0]] = made;
                return 0;
            case "copy": return copy(g);
            default: throw new AssertionError(name);
        }
    }

    private static long told(int bits, int what) {
        return what == 0 ? bits : Integer.bitCount(bits);
    }

    private long town(Row row) {
        SlowTown mind = t.twin();
        int answer = mind.text(row.elements);
        t = answer < 0 ? t : mind;
        return answer;
    }

    private long copy(int[] g) {
        if (!in(g[0], 0, 7) || !in(g[2], 0, 7)) return -1;
        Object from = shelves[g[0]];
        Object to = shelves[g[2]];
        if (from == null || to == null) return -11;
        if (!(from instanceof Row r) || !(to instanceof Row s) || r.sort != s.sort) return -12;
        long[] old = r.elements.clone();
        boolean fits = g[4] >= 0 && g[1] >= 0 && g[3] >= 0
            && (long) g[1] + g[4] <= old.length && (long) g[3] + g[4] <= s.elements.length;
        if (!fits) return -13;
        for (int i = 0; i < g[4]; i++) {
            s.elements[g[3] + i] = old[g[1] + i];
        }
        return g[4];
    }
}
