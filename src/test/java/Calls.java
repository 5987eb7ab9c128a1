import java.util.NoSuchElementException;

/** Every call of the face by its name, on a RiskDesk and on a PlainDesk alike. */
final class Calls {
    static final String[] NAMES = {"feed", "text", "fault", "write", "move", "change", "lapse", "treaty", "limit",
        "policy", "its", "worst", "inWorst", "bound", "spread", "ring", "part", "second", "chains", "tightest",
        "together", "heaviest", "heaviestSet", "two", "cover", "square", "radiusFor", "ifWritten", "about", "most",
        "places", "relief", "fewest", "nearest", "couples", "along", "storm", "hit", "pays", "drawn", "alarm", "act",
        "count"};
    static final int[] SIZES = {5, 1, 1, 4, 3, 2, 1, 3, 2, 2, 2, 2, 2, 2, 1, 2, 2, 1, 3, 0, 3, 2, 2, 3, 2, 3, 2, 5, 3, 3,
        2, 2, 1, 1, 1, 6, 6, 1, 1, 4, 2, 2, 1};

    private Calls() {
    }

    static long ofDesk(RiskDesk d, String name, int... a) {
        switch (name) {
            case "feed": return d.feed(a[0], a[1], a[2], a[3], a[4]);
            case "text": return d.text(a[0]);
            case "fault": return d.fault(a[0]);
            case "write": return d.write(a[0], a[1], a[2], a[3]);
            case "move": return d.move(a[0], a[1], a[2]);
            case "change": return d.change(a[0], a[1]);
            case "lapse": return d.lapse(a[0]);
            case "treaty": return d.treaty(a[0], a[1], a[2]);
            case "limit": return d.limit(a[0], a[1]);
            case "policy": return policy(d, a[0], a[1]);
            case "its": return d.its(a[0], a[1]);
            case "worst": return d.worst(a[0], a[1]);
            case "inWorst": return d.inWorst(a[0], a[1]);
            case "bound": return d.bound(a[0], a[1]);
            case "spread": return d.spread(a[0]);
            case "ring": return d.ring(a[0], a[1]);
            case "part": return d.part(a[0], a[1]);
            case "second": return d.second(a[0]);
            case "chains": return d.chains(a[0], a[1], a[2]);
            case "tightest": return d.tightest();
            case "together": return d.together(a[0], a[1], a[2]);
            case "heaviest": return d.heaviest(a[0], a[1]);
            case "heaviestSet": return d.heaviestSet(a[0], a[1]);
            case "two": return d.two(a[0], a[1], a[2]);
            case "cover": return d.cover(a[0], a[1]);
            case "square": return d.square(a[0], a[1], a[2]);
            case "radiusFor": return d.radiusFor(a[0], a[1]);
            case "ifWritten": return d.ifWritten(a[0], a[1], a[2], a[3], a[4]);
            case "about": return d.about(a[0], a[1], a[2]);
            case "most": return d.most(a[0], a[1], a[2]);
            case "places": return d.places(a[0], a[1]);
            case "relief": return d.relief(a[0], a[1]);
            case "fewest": return d.fewest(a[0]);
            case "nearest": return d.nearest(a[0]);
            case "couples": return d.couples(a[0]);
            case "along": return d.along(a[0], a[1], a[2], a[3], a[4], a[5]);
            case "storm": return d.storm(a[0], a[1], a[2], a[3], a[4], a[5]);
            case "hit": return d.hit(a[0]);
            case "pays": return d.pays(a[0]);
            case "drawn": return d.drawn(a[0], a[1], a[2], a[3]);
            case "alarm": return d.alarm(a[0], a[1]);
            case "act": return d.act(a[0], a[1]);
            case "count": return d.count(a[0]);
            default: throw new IllegalArgumentException(name);
        }
    }

    /** Any exception but the document's two goes on to the test and ends it. */
    private static long policy(RiskDesk d, int p, int what) {
        try {
            return d.policy(p, what);
        } catch (IndexOutOfBoundsException e) {
            if (e.getClass() != IndexOutOfBoundsException.class) throw e;
            return PlainDesk.OUT_OF_BOUNDS;
        } catch (NoSuchElementException e) {
            if (e.getClass() != NoSuchElementException.class) throw e;
            return PlainDesk.NO_SUCH_ELEMENT;
        }
    }

    static long ofPlain(PlainDesk d, String name, int... a) {
        switch (name) {
            case "feed": return d.feed(a[0], a[1], a[2], a[3], a[4]);
            case "text": return d.text(a[0]);
            case "fault": return d.fault(a[0]);
            case "write": return d.write(a[0], a[1], a[2], a[3]);
            case "move": return d.move(a[0], a[1], a[2]);
            case "change": return d.change(a[0], a[1]);
            case "lapse": return d.lapse(a[0]);
            case "treaty": return d.treaty(a[0], a[1], a[2]);
            case "limit": return d.limit(a[0], a[1]);
            case "policy": return d.policy(a[0], a[1]);
            case "its": return d.its(a[0], a[1]);
            case "worst": return d.worst(a[0], a[1]);
            case "inWorst": return d.inWorst(a[0], a[1]);
            case "bound": return d.bound(a[0], a[1]);
            case "spread": return d.spread(a[0]);
            case "ring": return d.ring(a[0], a[1]);
            case "part": return d.part(a[0], a[1]);
            case "second": return d.second(a[0]);
            case "chains": return d.chains(a[0], a[1], a[2]);
            case "tightest": return d.tightest();
            case "together": return d.together(a[0], a[1], a[2]);
            case "heaviest": return d.heaviest(a[0], a[1]);
            case "heaviestSet": return d.heaviestSet(a[0], a[1]);
            case "two": return d.two(a[0], a[1], a[2]);
            case "cover": return d.cover(a[0], a[1]);
            case "square": return d.square(a[0], a[1], a[2]);
            case "radiusFor": return d.radiusFor(a[0], a[1]);
            case "ifWritten": return d.ifWritten(a[0], a[1], a[2], a[3], a[4]);
            case "about": return d.about(a[0], a[1], a[2]);
            case "most": return d.most(a[0], a[1], a[2]);
            case "places": return d.places(a[0], a[1]);
            case "relief": return d.relief(a[0], a[1]);
            case "fewest": return d.fewest(a[0]);
            case "nearest": return d.nearest(a[0]);
            case "couples": return d.couples(a[0]);
            case "along": return d.along(a[0], a[1], a[2], a[3], a[4], a[5]);
            case "storm": return d.storm(a[0], a[1], a[2], a[3], a[4], a[5]);
            case "hit": return d.hit(a[0]);
            case "pays": return d.pays(a[0]);
            case "drawn": return d.drawn(a[0], a[1], a[2], a[3]);
            case "alarm": return d.alarm(a[0], a[1]);
            case "act": return d.act(a[0], a[1]);
            case "count": return d.count(a[0]);
            default: throw new IllegalArgumentException(name);
        }
    }

    static String shown(String name, int... a) {
        StringBuilder call = new StringBuilder(name).append('(');
        for (int i = 0; i < a.length; i++) call.append(i == 0 ? "" : ", ").append(a[i]);
        return call.append(')').toString();
    }
}
