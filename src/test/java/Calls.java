/** Calls told as texts: a name, and behind it its numbers. */
final class Calls {
    /** What stands for the exceptions that element throws. */
    static final long NO_SHELF = 2000000000001L;
    static final long NO_PLACE = 2000000000002L;

    private Calls() {
    }

    static long ask(RubberBandsHoldFamilies x, String call) {
        String[] said = call.split(" ");
        int[] g = new int[said.length - 1];
        for (int i = 0; i < g.length; i++) {
            g[i] = Integer.parseInt(said[i + 1]);
        }
        return ask(x, said[0], g);
    }

    static long ask(RubberBandsHoldFamilies x, String name, int[] g) {
        switch (name) {
            case "town": return x.town(g[0]);
            case "person": return x.person(g[0], g[1]);
            case "band": return x.band(g[0], g[1]);
            case "comes": return x.comes(g[0]);
            case "ties": return x.ties(g[0], g[1], g[2]);
            case "goes": return x.goes(g[0], g[1]);
            case "cold": return x.cold(g[0]);
            case "years": return x.years(g[0]);
            case "cuts": return x.cuts(g[0]);
            case "mayGo": return x.mayGo(g[0], g[1]);
            case "rest": return x.rest(g[0]);
            case "placeIn": return x.placeIn(g[0], g[1]);
            case "snappedIn": return x.snappedIn(g[0]);
            case "still": return x.still();
            case "firstSnap": return x.firstSnap(g[0]);
            case "christmas": return x.christmas(g[0]);
            case "order": return x.order(g[0]);
            case "letGo": return x.letGo(g[0], g[1]);
            case "crossing": return x.crossing(g[0]);
            case "untangle": return x.untangle();
            case "clans": return x.clans(g[0]);
            case "cousins": return x.cousins(g[0], g[1]);
            case "bridges": return x.bridges();
            case "renew": return x.renew(g[0], g[1]);
            case "frost": return x.frost(g[0]);
            case "lurch": return x.lurch(g[0], g[1]);
            case "gauges": return x.gauges(g[0], g[1], g[2]);
            case "two": return x.two(g[0], g[1]);
            default: return askOnward(x, name, g);
        }
    }

    private static long askOnward(RubberBandsHoldFamilies x, String name, int[] g) {
        switch (name) {
            case "night": return x.night(g[0], g[1], g[2], g[3]);
            case "mean": return x.mean(g[0]);
            case "farthest": return x.farthest(g[0]);
            case "forged": return x.forged(g[0]);
            case "judge": return x.judge(g[0]);
            case "generations": return x.generations(g[0], g[1], g[2]);
            case "image": return x.image();
            case "restore": return x.restore();
            case "count": return x.count(g[0]);
            case "keep": return x.keep(g[0], g[1], g[2], g[3]);
            case "row": return x.row(g[0], g[1], g[2]);
            case "put": return x.put(g[0], g[1], g[2]);
            case "element": return element(x, g);
            case "copy": return x.copy(g[0], g[1], g[2], g[3], g[4]);
            case "cost": return x.cost(g[0]);
            case "toss": return x.toss(g[0]);
            default: throw new AssertionError(name);
        }
    }

    private static long element(RubberBandsHoldFamilies x, int[] g) {
        try {
            return x.element(g[0], g[1]);
        } catch (IllegalArgumentException e) {
            return NO_SHELF;
        } catch (IllegalStateException e) {
            return NO_PLACE;
        }
    }
}
