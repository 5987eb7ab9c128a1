import java.util.Arrays;
import java.util.NoSuchElementException;

/** A desk for risks that lie close together; ../shared/DOC.md says what each call answers. */
public final class RiskDesk {
    public static final int NONE = -1;

    private static final int LACKING = -2;
    private static final int NO_SUCH = -2147483648;
    private static final int POLICIES = 24;
    private static final int TREATIES = 6;
    private static final int PLACES = 300;
    private static final int MOST_SUM = 99999;
    private static final int PERILS = 4;
    private static final int ALL_PERILS = 15;
    private static final int MOST_RADIUS = 300;
    private static final int MOST_LIMIT = 9999999;
    private static final int MOST_STEPS = 100;
    private static final int KEPT = 30;
    private static final int LEFT = 1;
    private static final int RIGHT = 2;
    private static final int ALL = (1 << POLICIES) - 1;

    private static final int WRITTEN = 0;
    private static final int MOVED = 1;
    private static final int CHANGED = 2;
    private static final int LAPSED = 3;

    private final Tape tape;
    private final Reader reader;
    private final Book book;
    private final Treaty[] treaties;
    private int treatyCount;
    private final Records acts;
    private final Records alarms;
    private final Track track;
    private final Discs discs;
    private final Family family;
    private final Circle circle;

    public RiskDesk() {
        tape = new Tape();
        reader = new Reader(tape);
        book = new Book();
        treaties = new Treaty[TREATIES];
        for (int t = 0; t < TREATIES; t++) {
            treaties[t] = new Treaty(book);
        }
        acts = new Records(NO_SUCH);
        alarms = new Records(LACKING);
        track = new Track();
        discs = new Discs(book);
        family = new Family();
        circle = new Circle(book);
    }

    // ---- the text ----

    public int feed(int a, int b, int c, int d, int e) {
        if (tape.length + Tape.FED > Tape.ROOM) {
            return NONE;
        }
        tape.push(a);
        tape.push(b);
        tape.push(c);
        tape.push(d);
        tape.push(e);
        return tape.length;
    }

    public int text(int n) {
        if (n < 0 || n > tape.length) {
            return LACKING;
        }
        reader.read(n);
        tape.length = 0;
        if (reader.fault != 0) {
            return NONE;
        }
        beginAnew();
        return reader.policies + reader.treaties;
    }

    public int fault(int what) {
        if (what == 0) {
            return reader.fault;
        }
        return what == 1 ? reader.place : NONE;
    }

    private void beginAnew() {
        book.clear();
        acts.count = 0;
        alarms.count = 0;
        track.told = false;
        treatyCount = 0;
        for (int p = 0; p < reader.policies; p++) {
            book.enter(p, reader.ofPolicy(p, 0), reader.ofPolicy(p, 1), reader.ofPolicy(p, 2), reader.ofPolicy(p, 3));
        }
        for (int t = 0; t < reader.treaties; t++) {
            openTreaty(reader.ofTreaty(t, 0), reader.ofTreaty(t, 1), reader.ofTreaty(t, 2));
        }
    }

    // ---- policies ----

    public int write(int x, int y, int sum, int peril) {
        if (!isPlace(x, y) || !isSum(sum) || !isPeril(peril)) {
            return NONE;
        }
        int p = book.leastFree();
        if (p < 0) {
            return LACKING;
        }
        book.enter(p, x, y, sum, peril);
        joinTreaties(p, peril);
        tell(WRITTEN, p, sum, peril);
        return p;
    }

    public int move(int p, int x, int y) {
        if (!book.has(p) || !isPlace(x, y)) {
            return NONE;
        }
        int peril = book.perilOf(p);
        int far = book.apart(p, x, y);
        leaveTreaties(p, peril);
        book.shift(p, x, y);
        joinTreaties(p, peril);
        tell(MOVED, p, 0, peril);
        return far;
    }

    public int change(int p, int sum) {
        if (!book.has(p) || !isSum(sum)) {
            return NONE;
        }
        int was = book.sumOf(p);
        book.weigh(p, sum);
        tell(CHANGED, p, sum - was, book.perilOf(p));
        return was;
    }

    public int lapse(int p) {
        if (!book.has(p)) {
            return NONE;
        }
        int was = book.sumOf(p);
        int peril = book.perilOf(p);
        leaveTreaties(p, peril);
        book.drop(p);
        tell(LAPSED, p, -was, peril);
        return was;
    }

    public int policy(int p, int what) throws IndexOutOfBoundsException, NoSuchElementException {
        if (!book.has(p)) {
            throw new IndexOutOfBoundsException();
        }
        switch (what) {
            case 0:
                return book.xOf(p);
            case 1:
                return book.yOf(p);
            case 2:
                return book.sumOf(p);
            case 3:
                return book.perilOf(p);
            case 4:
                return Integer.bitCount(book.within(book.xOf(p), book.yOf(p), 0)) - 1;
            default:
                throw new NoSuchElementException();
        }
    }

    /** An ACT stands before the TREATIES are looked at: an ALARM bears its number. */
    private void tell(int kind, int p, int more, int peril) {
        acts.note(kind, p, more);
        for (int t = 0; t < treatyCount; t++) {
            Treaty it = treatyAt(t);
            if (it != null && it.takes(peril)) {
                it.findWorst();
                lookAt(t);
            }
        }
    }

    private void joinTreaties(int p, int peril) {
        for (int t = 0; t < treatyCount; t++) {
            Treaty it = treatyAt(t);
            if (it != null && it.takes(peril)) {
                it.discs.add(p);
            }
        }
    }

    private void leaveTreaties(int p, int peril) {
        for (int t = 0; t < treatyCount; t++) {
            Treaty it = treatyAt(t);
            if (it != null && it.takes(peril)) {
                it.discs.remove(p);
            }
        }
    }

    // ---- treaties ----

    public int treaty(int perils, int radius, int limit) {
        if (!arePerils(perils) || !isRadius(radius) || limit < 1 || limit > MOST_LIMIT) {
            return NONE;
        }
        return openTreaty(perils, radius, limit);
    }

    public int limit(int t, int limit) {
        Treaty it = treatyAt(t);
        if (it == null || limit < 1 || limit > MOST_LIMIT) {
            return NONE;
        }
        int was = it.limit;
        it.limit = limit;
        lookAt(t);
        return was;
    }

    public int its(int t, int what) {
        Treaty it = treatyAt(t);
        if (it == null) {
            return NONE;
        }
        switch (what) {
            case 0:
                return it.perils;
            case 1:
                return it.radius;
            case 2:
                return it.limit;
            case 3:
                return Integer.bitCount(it.discs.members);
            case 4:
                return book.sums(it.discs.members);
            case 5:
                return it.isPassed() ? 1 : 0;
            case 6:
                return it.alarm;
            case 7:
                return it.alarmsHad;
            default:
                return NONE;
        }
    }

    private Treaty treatyAt(int t) {
        return t >= 0 && t < treatyCount && t < treaties.length ? treaties[t] : null;
    }

    private int openTreaty(int perils, int radius, int limit) {
        int t = treatyCount;
        if (t < 0 || t >= treaties.length) {
            return LACKING;
        }
        Treaty it = treaties[t];
        if (it == null) {
            return LACKING;
        }
        treatyCount++;
        it.agree(perils, radius, limit);
        it.discs.fill(radius, book.ofPerils(perils));
        it.findWorst();
        lookAt(t);
        return t;
    }

    private void lookAt(int t) {
        Treaty it = treatyAt(t);
        if (it == null) {
            return;
        }
        if (!it.isPassed()) {
            it.alarm = LACKING;
        } else if (it.alarm == LACKING) {
            it.alarm = acts.count;
            it.alarmsHad++;
            alarms.note(t, acts.count, it.worstSums);
        }
    }

    // ---- the worst of a treaty ----

    public int worst(int t, int what) {
        Treaty it = treatyAt(t);
        if (it == null) {
            return NO_SUCH;
        }
        switch (what) {
            case 0:
                return it.worstSums;
            case 1:
                return Integer.bitCount(it.worstSet);
            case 2:
                return it.limit - it.worstSums;
            default:
                return NO_SUCH;
        }
    }

    public int inWorst(int t, int i) {
        Treaty it = treatyAt(t);
        if (it == null || i < 0) {
            return NONE;
        }
        int ahead = 0;
        for (int p = 0; p < POLICIES; p++) {
            if (contains(it.worstSet, p)) {
                if (ahead == i) {
                    return p;
                }
                ahead++;
            }
        }
        return LACKING;
    }

    public int bound(int t, int what) {
        Treaty it = treatyAt(t);
        if (it == null || what < 0 || what > 2) {
            return NONE;
        }
        if (it.worstSet == 0) {
            return LACKING;
        }
        int way = it.discs.bounding(it.worstSet);
        int from = way / POLICIES;
        int to = way % POLICIES;
        if (what == 0) {
            return Math.min(from, to);
        }
        if (what == 1) {
            return from == to ? LACKING : Math.max(from, to);
        }
        return from > to ? 1 : 0;
    }

    public int spread(int t) {
        Treaty it = treatyAt(t);
        if (it == null) {
            return NONE;
        }
        if (it.worstSet == 0) {
            return LACKING;
        }
        int most = 0;
        for (int p = 0; p < POLICIES; p++) {
            for (int q = p + 1; q < POLICIES; q++) {
                if (contains(it.worstSet, p) && contains(it.worstSet, q)) {
                    most = Math.max(most, book.between(p, q));
                }
            }
        }
        return most;
    }

    public long ring(int t, int what) {
        Treaty it = treatyAt(t);
        if (it == null || what < 0 || what > 4) {
            return NONE;
        }
        if (it.worstSet == 0) {
            return LACKING;
        }
        circle.close(it.worstSet);
        switch (what) {
            case 0:
                return circle.above;
            case 1:
                return circle.below;
            case 2:
                return circle.first;
            case 3:
                return circle.second;
            default:
                return circle.third;
        }
    }

    public int part(int t, int p) {
        Treaty it = treatyAt(t);
        if (it == null || !book.has(p)) {
            return NONE;
        }
        return it.worstSums - it.worstWithout(1 << p);
    }

    public int second(int t) {
        Treaty it = treatyAt(t);
        return it == null ? NONE : it.worstWithout(it.worstSet);
    }

    public int tightest() {
        int tightest = LACKING;
        long sums = 0;
        long limit = 1;
        for (int t = 0; t < treatyCount; t++) {
            Treaty it = treatyAt(t);
            if (it != null && (tightest < 0 || it.worstSums * limit > sums * it.limit)) {
                tightest = t;
                sums = it.worstSums;
                limit = it.limit;
            }
        }
        return tightest;
    }

    public int relief(int t, int what) {
        Treaty it = treatyAt(t);
        if (it == null || what < 0 || what > 1) {
            return NONE;
        }
        int first = LACKING;
        int least = LACKING;
        for (int p = 0; p < POLICIES; p++) {
            if (contains(it.worstSet, p)) {
                int then = it.worstWithout(1 << p);
                if (first < 0 || then < least) {
                    first = p;
                    least = then;
                }
            }
        }
        return what == 0 ? first : least;
    }

    /** One of those that lapse is always of WORST: else WORST stays as it is. */
    public int fewest(int t) {
        Treaty it = treatyAt(t);
        if (it == null) {
            return NONE;
        }
        if (!it.isPassed()) {
            return 0;
        }
        for (int p = 0; p < POLICIES; p++) {
            if (contains(it.worstSet, p) && !it.staysPassed(1 << p)) {
                return 1;
            }
        }
        for (int p = 0; p < POLICIES; p++) {
            if (contains(it.worstSet, p) && it.isFreedWith(p)) {
                return 2;
            }
        }
        return LACKING;
    }

    // ---- one more policy, or one that moves ----

    public int ifWritten(int t, int x, int y, int sum, int peril) {
        Treaty it = treatyAt(t);
        if (it == null || !isPlace(x, y) || !isSum(sum) || !isPeril(peril)) {
            return NONE;
        }
        if (!it.takes(peril)) {
            return it.worstSums;
        }
        return Math.max(it.worstSums, it.discs.joined(x, y, ALL, 0) + sum);
    }

    public int about(int t, int x, int y) {
        Treaty it = treatyAt(t);
        return it == null || !isPlace(x, y) ? NONE : it.discs.joined(x, y, ALL, 0);
    }

    public int most(int x, int y, int peril) {
        if (!isPlace(x, y) || !isPeril(peril)) {
            return NONE;
        }
        int most = MOST_SUM;
        for (int t = 0; t < treatyCount; t++) {
            Treaty it = treatyAt(t);
            if (it != null && it.takes(peril)) {
                if (it.isPassed()) {
                    return 0;
                }
                most = Math.min(most, it.limit - it.discs.joined(x, y, ALL, 0));
            }
        }
        return most;
    }

    public int places(int sum, int peril) {
        if (!isSum(sum) || !isPeril(peril)) {
            return NONE;
        }
        int free = 0;
        for (int x = 0; x < PLACES; x += 30) {
            for (int y = 0; y < PLACES; y += 30) {
                if (leavesAll(x, y, sum, peril)) {
                    free++;
                }
            }
        }
        return free;
    }

    private boolean leavesAll(int x, int y, int sum, int peril) {
        for (int t = 0; t < treatyCount; t++) {
            Treaty it = treatyAt(t);
            if (it != null && it.takes(peril)) {
                int room = it.limit - sum;
                if (it.isPassed() || it.discs.joined(x, y, ALL, room) > room) {
                    return false;
                }
            }
        }
        return true;
    }

    /** At place 0 it stands where it is, so WORST is there what it is now. */
    public int along(int t, int p, int x, int y, int n, int what) {
        Treaty it = treatyAt(t);
        if (it == null || !book.has(p) || !isPlace(x, y) || n < 1 || n > 20 || what < 0 || what > 1) {
            return NONE;
        }
        int others = ALL & ~(1 << p);
        int sum = book.sumOf(p);
        int most = it.worstSums;
        int first = it.isPassed() ? 0 : LACKING;
        for (int k = 1; k <= n && it.takes(book.perilOf(p)); k++) {
            int onX = onWay(book.xOf(p), x, k, n);
            int onY = onWay(book.yOf(p), y, k, n);
            most = Math.max(most, it.discs.joined(onX, onY, others, most - sum) + sum);
            if (first < 0 && most > it.limit) {
                first = k;
            }
        }
        return what == 0 ? most : first;
    }

    // ---- policies of some perils ----

    public int chains(int perils, int radius, int what) {
        if (!arePerils(perils) || !isReach(radius) || what < 0 || what > 3) {
            return NONE;
        }
        int left = book.ofPerils(perils);
        int count = 0;
        int longest = 0;
        int heaviest = 0;
        for (int p = 0; p < POLICIES; p++) {
            if (contains(left, p)) {
                int chain = chainFrom(p, left, radius);
                left &= ~chain;
                count++;
                longest = Math.max(longest, Integer.bitCount(chain));
                if (book.sums(chain) > book.sums(heaviest)) {
                    heaviest = chain;
                }
            }
        }
        switch (what) {
            case 0:
                return count;
            case 1:
                return longest;
            case 2:
                return book.sums(heaviest);
            default:
                return heaviest;
        }
    }

    /** A round that adds none is the last one: no more rounds than policies. */
    private int chainFrom(int start, int among, int radius) {
        int chain = 1 << start;
        int before = 0;
        for (int round = 0; round < POLICIES && chain != before; round++) {
            before = chain;
            for (int p = 0; p < POLICIES; p++) {
                if (contains(chain, p)) {
                    chain |= among & book.within(book.xOf(p), book.yOf(p), radius);
                }
            }
        }
        return chain;
    }

    public int heaviest(int perils, int radius) {
        if (!arePerils(perils) || !isRadius(radius)) {
            return NONE;
        }
        return book.sums(heaviestOf(book.ofPerils(perils), radius));
    }

    public int heaviestSet(int perils, int radius) {
        if (!arePerils(perils) || !isRadius(radius)) {
            return NONE;
        }
        return heaviestOf(book.ofPerils(perils), radius);
    }

    private int heaviestOf(int set, int radius) {
        discs.fill(radius, set);
        return discs.heaviestAmong(ALL);
    }

    public int two(int perils, int radius, int what) {
        if (!arePerils(perils) || !isRadius(radius) || what < 0 || what > 1) {
            return NONE;
        }
        discs.fill(radius, book.ofPerils(perils));
        family.gather(discs);
        int both = family.heaviestTwo(book);
        return what == 0 ? book.sums(both) : both;
    }

    public int cover(int perils, int radius) {
        if (!arePerils(perils) || !isRadius(radius)) {
            return NONE;
        }
        int all = book.ofPerils(perils);
        if (all == 0) {
            return 0;
        }
        discs.fill(radius, all);
        family.gather(discs);
        return family.fewestOver(all);
    }

    public int square(int perils, int side, int what) {
        if (!arePerils(perils) || side < 0 || side >= PLACES || what < 0 || what > 2) {
            return NONE;
        }
        int set = book.ofPerils(perils);
        int most = 0;
        int leastX = LACKING;
        int leastY = LACKING;
        for (int p = 0; p < POLICIES; p++) {
            for (int q = 0; q < POLICIES; q++) {
                if (contains(set, p) && contains(set, q)) {
                    int x = book.xOf(p);
                    int y = book.yOf(q);
                    int sums = book.sums(set & book.inSquare(x, y, side));
                    boolean ahead = x < leastX || x == leastX && y < leastY;
                    if (sums > most || sums == most && ahead) {
                        most = sums;
                        leastX = x;
                        leastY = y;
                    }
                }
            }
        }
        return what == 0 ? most : what == 1 ? leastX : leastY;
    }

    /** What one disc holds a greater one holds too: so the least radius is found by halving. */
    public int radiusFor(int perils, int n) {
        if (!arePerils(perils) || n < 1) {
            return NONE;
        }
        int set = book.ofPerils(perils);
        if (book.sums(set) < n || book.sums(heaviestOf(set, MOST_RADIUS)) < n) {
            return LACKING;
        }
        int least = 1;
        int most = MOST_RADIUS;
        for (int i = 0; i < MOST_RADIUS && least < most; i++) {
            int half = (least + most) / 2;
            if (book.sums(heaviestOf(set, half)) >= n) {
                most = half;
            } else {
                least = half + 1;
            }
        }
        return least;
    }

    // ---- how near policies are ----

    public int together(int p, int q, int radius) {
        if (!book.has(p) || !book.has(q) || p == q || !isRadius(radius)) {
            return NONE;
        }
        return book.between(p, q) <= 4 * radius * radius ? 1 : 0;
    }

    public int nearest(int p) {
        if (!book.has(p)) {
            return NONE;
        }
        int nearest = LACKING;
        int least = 0;
        for (int q = 0; q < POLICIES; q++) {
            if (q != p && book.has(q)) {
                int far = book.between(p, q);
                if (nearest < 0 || far < least) {
                    nearest = q;
                    least = far;
                }
            }
        }
        return nearest;
    }

    public int couples(int radius) {
        if (!isReach(radius)) {
            return NONE;
        }
        int twice = 0;
        for (int p = 0; p < POLICIES; p++) {
            if (book.has(p)) {
                twice += Integer.bitCount(book.within(book.xOf(p), book.yOf(p), radius)) - 1;
            }
        }
        return twice / 2;
    }

    // ---- storms and discs drawn by chance ----

    public int storm(int radius, int x, int y, int toX, int toY, int n) {
        if (!isReach(radius) || !isPlace(x, y) || !isPlace(toX, toY) || n < 1 || n > MOST_STEPS) {
            return NONE;
        }
        track.told = true;
        track.radius = radius;
        track.x = x;
        track.y = y;
        track.toX = toX;
        track.toY = toY;
        track.steps = n;
        return Integer.bitCount(track.hits(book));
    }

    public int hit(int what) {
        if (what < 0 || what > 3) {
            return NONE;
        }
        if (!track.told) {
            return LACKING;
        }
        switch (what) {
            case 0:
                return track.hits(book);
            case 1:
                return book.sums(track.hits(book));
            case 2:
                return track.fiercest(book);
            default:
                return book.sums(track.hitAt(book, track.fiercest(book)));
        }
    }

    public int pays(int t) {
        Treaty it = treatyAt(t);
        if (it == null) {
            return NONE;
        }
        if (!track.told) {
            return LACKING;
        }
        return Math.max(0, book.sums(it.discs.members & track.hits(book)) - it.limit);
    }

    public int drawn(int t, int seed, int n, int what) {
        Treaty it = treatyAt(t);
        if (it == null || seed < 0 || n < 1 || n > MOST_STEPS || what < 0 || what > 3) {
            return NONE;
        }
        int greatest = 0;
        int first = 0;
        int passed = 0;
        int together = 0;
        int x = seed;
        for (int i = 0; i < n; i++) {
            x = drawnAfter(x);
            int midX = x / 65536 % PLACES;
            x = drawnAfter(x);
            int sums = book.sums(it.discs.members & book.within(midX, x / 65536 % PLACES, it.radius));
            if (sums > greatest) {
                greatest = sums;
                first = i;
            }
            passed += sums > it.limit ? 1 : 0;
            together += sums;
        }
        switch (what) {
            case 0:
                return greatest;
            case 1:
                return first;
            case 2:
                return passed;
            default:
                return together;
        }
    }

    private static int drawnAfter(int x) {
        return (int) ((x * 1103515245L + 12345L) & 2147483647);
    }

    // ---- what has been ----

    public int alarm(int i, int what) {
        return i < 0 || what < 0 || what > 2 ? NONE : alarms.latest(i, what);
    }

    public int act(int i, int what) {
        return i < 0 || what < 0 || what > 2 ? NO_SUCH : acts.latest(i, what);
    }

    public int count(int what) {
        switch (what) {
            case 0:
                return Integer.bitCount(book.inForce);
            case 1:
                return treatyCount;
            case 2:
                return book.sums(book.inForce);
            case 3:
                return passedTreaties();
            case 4:
                return acts.count;
            case 5:
                return book.unlikePlaces();
            case 6:
                return tape.length;
            default:
                return NONE;
        }
    }

    private int passedTreaties() {
        int passed = 0;
        for (int t = 0; t < treatyCount; t++) {
            Treaty it = treatyAt(t);
            if (it != null && it.isPassed()) {
                passed++;
            }
        }
        return passed;
    }

    // ---- what numbers may be ----

    private static boolean isPlace(int x, int y) {
        return x >= 0 && x < PLACES && y >= 0 && y < PLACES;
    }

    private static boolean isSum(int sum) {
        return sum >= 1 && sum <= MOST_SUM;
    }

    private static boolean isPeril(int peril) {
        return peril >= 0 && peril < PERILS;
    }

    private static boolean arePerils(int perils) {
        return perils >= 1 && perils <= ALL_PERILS;
    }

    private static boolean isRadius(int radius) {
        return radius >= 1 && radius <= MOST_RADIUS;
    }

    /** A radius that may be 0: a storm's, or how far a chain or a couple reaches. */
    private static boolean isReach(int radius) {
        return radius >= 0 && radius <= MOST_RADIUS;
    }

    private static boolean contains(int set, int p) {
        return (set >>> p & 1) != 0;
    }

    private static boolean isNumber(int p) {
        return p >= 0 && p < POLICIES;
    }

    private static int onWay(int from, int to, int k, int n) {
        return n < 1 ? from : from + Math.floorDiv(k * (to - from), n);
    }

    /**
     * A place lies in which of the two discs with a and b on the rim: LEFT, RIGHT of the way from a to b, both or none.
     * It is told from a on, as b is (dx, dy); apart is how far b is, squared, slack what 4 times the radius squared is
     * more than that.
     *
     * The midst is half the way to b and s times the left normal times sqrt(slack / apart) / 2, s 1 or -1; so the place
     * lies in the disc if dot times sqrt(apart) is not more than s times cross times sqrt(slack): squared, whole
     * numbers decide it.
     */
    private static int sides(int dx, int dy, int x, int y, int apart, int slack) {
        long dot = (long) x * (x - dx) + (long) y * (y - dy);
        long cross = (long) dx * y - (long) dy * x;
        long inward = dot * dot * apart;
        long outward = cross * cross * slack;
        int side = cross > 0 ? LEFT : RIGHT;
        if (dot <= 0) {
            return inward >= outward ? LEFT | RIGHT : side;
        }
        return inward <= outward ? side : 0;
    }

    // ---- classes inside ----

    /** The bytes that were fed and not yet read. */
    private static final class Tape {
        static final int FED = 20;
        static final int ROOM = 900;

        private final int[] bytes = new int[ROOM];
        int length;

        void push(int four) {
            for (int shift = 24; shift >= 0; shift -= 8) {
                if (length >= 0 && length < bytes.length) {
                    bytes[length] = four >>> shift & 255;
                    length++;
                }
            }
        }

        int at(int i) {
            return i >= 0 && i < bytes.length ? bytes[i] : NONE;
        }
    }

    /** Reads a TEXT into rows of its own, so that one with a FAULT changes nothing else. */
    private static final class Reader {
        private static final int OF_POLICY = 4;
        private static final int OF_TREATY = 3;
        private static final int ENOUGH = 100000000;
        private static final int MISPLACED = 1;
        private static final int TOO_MUCH = 2;

        private static final int[] LEAST_OF_POLICY = {0, 0, 1, 0};
        private static final int[] MOST_OF_POLICY = {299, 299, 99999, 3};
        private static final int[] LEAST_OF_TREATY = {1, 1, 1};
        private static final int[] MOST_OF_TREATY = {15, 300, 9999999};

        private final Tape tape;
        private final int[] policyNumbers = new int[POLICIES * OF_POLICY];
        private final int[] treatyNumbers = new int[TREATIES * OF_TREATY];
        private int length;
        private int at;
        int policies;
        int treaties;
        int fault;
        int place = NONE;

        Reader(Tape tape) {
            this.tape = tape;
        }

        void read(int n) {
            length = n;
            at = 0;
            policies = 0;
            treaties = 0;
            fault = 0;
            place = NONE;
            skipBlanks();
            for (int i = 0; i < Tape.ROOM && at < length && fault == 0; i++) {
                readLine();
                skipBlanks();
            }
        }

        int ofPolicy(int p, int part) {
            int i = p * OF_POLICY + part;
            return i >= 0 && i < policyNumbers.length ? policyNumbers[i] : 0;
        }

        int ofTreaty(int t, int part) {
            int i = t * OF_TREATY + part;
            return i >= 0 && i < treatyNumbers.length ? treatyNumbers[i] : 0;
        }

        private void readLine() {
            int start = at;
            passWord();
            if (spells(start, "policy")) {
                readNumbers(start, policies, policyNumbers, LEAST_OF_POLICY, MOST_OF_POLICY);
                policies++;
            } else if (spells(start, "treaty")) {
                readNumbers(start, treaties, treatyNumbers, LEAST_OF_TREATY, MOST_OF_TREATY);
                treaties++;
            } else {
                complain(MISPLACED, start);
            }
            readEnd();
        }

        /** The numbers of a line go behind those of the lines of its kind that were ahead of it. */
        private void readNumbers(int start, int ahead, int[] numbers, int[] least, int[] most) {
            int first = ahead * least.length;
            if (first >= numbers.length) {
                complain(TOO_MUCH, start);
            }
            for (int i = 0; i < least.length && i < most.length && fault == 0; i++) {
                int number = readNumber(least[i], most[i]);
                if (first + i >= 0 && first + i < numbers.length) {
                    numbers[first + i] = number;
                }
            }
        }

        private int readNumber(int least, int most) {
            skipBlanks();
            int start = at;
            int number = 0;
            while (at < length && isDigit(tape.at(at))) {
                number = Math.min(ENOUGH, number * 10 + (tape.at(at) - '0'));
                at++;
            }
            if (at == start) {
                complain(MISPLACED, start);
            } else if (number < least || number > most) {
                complain(TOO_MUCH, start);
            }
            return number;
        }

        private void readEnd() {
            skipBlanks();
            if (at < length && tape.at(at) == ';') {
                at++;
            } else {
                complain(MISPLACED, at);
            }
        }

        /** The first fault stays. */
        private void complain(int what, int where) {
            if (fault == 0) {
                fault = what;
                place = where;
            }
        }

        private void skipBlanks() {
            while (at < length && (tape.at(at) == 10 || tape.at(at) == 32)) {
                at++;
            }
        }

        private void passWord() {
            while (at < length && tape.at(at) >= 'a' && tape.at(at) <= 'z') {
                at++;
            }
        }

        private boolean spells(int start, String word) {
            if (at - start != word.length()) {
                return false;
            }
            for (int i = 0; i < word.length(); i++) {
                if (tape.at(start + i) != word.charAt(i)) {
                    return false;
                }
            }
            return true;
        }

        private static boolean isDigit(int sign) {
            return sign >= '0' && sign <= '9';
        }
    }

    /** The policies; the sums of any set of them are looked up, eight policies at once. */
    private static final class Book {
        private static final int GROUP = 256;

        private final int[] x = new int[POLICIES];
        private final int[] y = new int[POLICIES];
        private final int[] sum = new int[POLICIES];
        private final int[] peril = new int[POLICIES];
        private final int[] groupSums = new int[POLICIES / 8 * GROUP];
        int inForce;

        void clear() {
            inForce = 0;
            Arrays.fill(sum, 0);
            Arrays.fill(groupSums, 0);
        }

        boolean has(int p) {
            return isNumber(p) && contains(inForce, p);
        }

        int leastFree() {
            for (int p = 0; p < POLICIES; p++) {
                if (!contains(inForce, p)) {
                    return p;
                }
            }
            return NONE;
        }

        void enter(int p, int atX, int atY, int ofSum, int ofPeril) {
            if (isNumber(p)) {
                inForce |= 1 << p;
                peril[p] = ofPeril;
                shift(p, atX, atY);
                weigh(p, ofSum);
            }
        }

        void shift(int p, int toX, int toY) {
            if (isNumber(p)) {
                x[p] = toX;
                y[p] = toY;
            }
        }

        void drop(int p) {
            if (isNumber(p)) {
                weigh(p, 0);
                inForce &= ~(1 << p);
            }
        }

        void weigh(int p, int ofSum) {
            if (!isNumber(p)) {
                return;
            }
            int more = ofSum - sum[p];
            int group = (p >>> 3) * GROUP;
            sum[p] = ofSum;
            for (int i = 0; i < GROUP; i++) {
                if (contains(i, p & 7) && group + i < groupSums.length) {
                    groupSums[group + i] += more;
                }
            }
        }

        int sums(int set) {
            int low = set & 255;
            int middle = GROUP + (set >>> 8 & 255);
            int high = 2 * GROUP + (set >>> 16 & 255);
            if (high >= groupSums.length) {
                return 0;
            }
            return groupSums[low] + groupSums[middle] + groupSums[high];
        }

        int xOf(int p) {
            return isNumber(p) ? x[p] : 0;
        }

        int yOf(int p) {
            return isNumber(p) ? y[p] : 0;
        }

        int sumOf(int p) {
            return isNumber(p) ? sum[p] : 0;
        }

        int perilOf(int p) {
            return isNumber(p) ? peril[p] : 0;
        }

        int between(int p, int q) {
            return apart(p, xOf(q), yOf(q));
        }

        int apart(int p, int fromX, int fromY) {
            int dx = xOf(p) - fromX;
            int dy = yOf(p) - fromY;
            return dx * dx + dy * dy;
        }

        int ofPerils(int perils) {
            int set = 0;
            for (int p = 0; p < POLICIES; p++) {
                if (contains(inForce, p) && contains(perils, peril[p])) {
                    set |= 1 << p;
                }
            }
            return set;
        }

        int within(int midX, int midY, int radius) {
            int set = 0;
            for (int p = 0; p < POLICIES; p++) {
                int dx = x[p] - midX;
                int dy = y[p] - midY;
                if (contains(inForce, p) && dx * dx + dy * dy <= radius * radius) {
                    set |= 1 << p;
                }
            }
            return set;
        }

        int inSquare(int leastX, int leastY, int side) {
            int set = 0;
            for (int p = 0; p < POLICIES; p++) {
                int dx = x[p] - leastX;
                int dy = y[p] - leastY;
                if (contains(inForce, p) && dx >= 0 && dx <= side && dy >= 0 && dy <= side) {
                    set |= 1 << p;
                }
            }
            return set;
        }

        int unlikePlaces() {
            int places = 0;
            for (int p = 0; p < POLICIES; p++) {
                if (contains(inForce, p) && (within(x[p], y[p], 0) & (1 << p) - 1) == 0) {
                    places++;
                }
            }
            return places;
        }
    }

    /**
     * What lies in the discs of one radius that matter: the disc about each member, and for each two members at unlike
     * places the two discs with both on the rim. Every disc can be shifted, losing none of what it holds, until it is
     * one of these; so all that goes together lies in one of these sets.
     *
     * The set at a * POLICIES + b is that of the disc whose midst is left of the way from a to b (about a, if a is b).
     */
    private static final class Discs {
        private static final int WAYS = POLICIES * POLICIES;

        private final Book book;
        private final int[] sets = new int[WAYS];
        private int radius;
        private int left;
        private int right;
        int members;

        Discs(Book book) {
            this.book = book;
        }

        void fill(int ofRadius, int set) {
            radius = ofRadius;
            members = 0;
            Arrays.fill(sets, 0);
            for (int p = 0; p < POLICIES; p++) {
                if (contains(set, p)) {
                    add(p);
                }
            }
        }

        /** A disc with p in it holds none that is farther from p than twice the radius. */
        void add(int p) {
            if (!isNumber(p)) {
                return;
            }
            members |= 1 << p;
            int near = members & book.within(book.x[p], book.y[p], 2 * radius);
            int nearest = members & book.within(book.x[p], book.y[p], radius);
            extend(p, near);
            for (int b = 0; b < POLICIES; b++) {
                if (contains(near, b)) {
                    holdBoth(book.x[p], book.y[p], b, near);
                    sets[p * POLICIES + b] |= left;
                    sets[b * POLICIES + p] |= right;
                }
                if (contains(nearest, b)) {
                    sets[p * POLICIES + p] |= 1 << b;
                    sets[b * POLICIES + b] |= 1 << p;
                }
            }
        }

        void remove(int p) {
            if (!isNumber(p)) {
                return;
            }
            members &= ~(1 << p);
            for (int i = 0; i < WAYS; i++) {
                sets[i] &= members;
            }
            for (int b = 0; b < POLICIES; b++) {
                sets[p * POLICIES + b] = 0;
                sets[b * POLICIES + p] = 0;
            }
        }

        /** Puts p into the discs that were there ahead of it. */
        private void extend(int p, int near) {
            if (!isNumber(p)) {
                return;
            }
            for (int a = 0; a < POLICIES; a++) {
                for (int b = a + 1; b < POLICIES; b++) {
                    if (contains(near, a) && contains(near, b) && a != p && b != p) {
                        int in = sidesAt(a, b, book.x[p], book.y[p]);
                        sets[a * POLICIES + b] |= (in & LEFT) != 0 ? 1 << p : 0;
                        sets[b * POLICIES + a] |= (in & RIGHT) != 0 ? 1 << p : 0;
                    }
                }
            }
        }

        /** What the two discs with the place and b on the rim hold of some members; nothing, if there are none such. */
        private void holdBoth(int x, int y, int b, int some) {
            left = 0;
            right = 0;
            if (!isNumber(b)) {
                return;
            }
            int dx = book.x[b] - x;
            int dy = book.y[b] - y;
            int apart = dx * dx + dy * dy;
            int slack = 4 * radius * radius - apart;
            for (int q = 0; q < POLICIES && apart > 0 && slack >= 0; q++) {
                if (contains(some, q)) {
                    int in = sides(dx, dy, book.x[q] - x, book.y[q] - y, apart, slack);
                    left |= (in & LEFT) != 0 ? 1 << q : 0;
                    right |= (in & RIGHT) != 0 ? 1 << q : 0;
                }
            }
        }

        private int sidesAt(int a, int b, int x, int y) {
            if (!isNumber(a) || !isNumber(b)) {
                return 0;
            }
            int dx = book.x[b] - book.x[a];
            int dy = book.y[b] - book.y[a];
            int apart = dx * dx + dy * dy;
            int slack = 4 * radius * radius - apart;
            if (apart == 0 || slack < 0) {
                return 0;
            }
            return sides(dx, dy, x - book.x[a], y - book.y[a], apart, slack);
        }

        int at(int i) {
            return i >= 0 && i < WAYS ? sets[i] : 0;
        }

        int heaviestAmong(int some) {
            int best = 0;
            int most = 0;
            for (int i = 0; i < WAYS; i++) {
                int set = sets[i] & some;
                if (set != 0) {
                    int sums = book.sums(set);
                    if (sums > most || sums == most && set < best) {
                        best = set;
                        most = sums;
                    }
                }
            }
            return best;
        }

        boolean hasMore(int some, int limit) {
            for (int i = 0; i < WAYS; i++) {
                if (book.sums(sets[i] & some) > limit) {
                    return true;
                }
            }
            return false;
        }

        /** Where the first disc stands that holds this very set: one about a member goes ahead of all others. */
        int bounding(int set) {
            for (int a = 0; a < POLICIES; a++) {
                if (contains(set, a) && sets[a * POLICIES + a] == set) {
                    return a * POLICIES + a;
                }
            }
            for (int a = 0; a < POLICIES; a++) {
                for (int b = a + 1; b < POLICIES; b++) {
                    if (contains(set, a) && contains(set, b)) {
                        if (sets[a * POLICIES + b] == set) {
                            return a * POLICIES + b;
                        }
                        if (sets[b * POLICIES + a] == set) {
                            return b * POLICIES + a;
                        }
                    }
                }
            }
            return 0;
        }

        /** The greatest sums of some members in a disc with the place, if that is more than the floor; else the floor. */
        int joined(int x, int y, int some, int floor) {
            int reach = some & members & book.within(x, y, 2 * radius);
            int most = Math.max(floor, book.sums(reach & book.within(x, y, radius)));
            if (book.sums(reach) <= most) {
                return most;
            }
            for (int b = 0; b < POLICIES; b++) {
                if (contains(reach, b)) {
                    holdBoth(x, y, b, reach);
                    most = Math.max(most, Math.max(book.sums(left), book.sums(right)));
                }
            }
            for (int a = 0; a < POLICIES; a++) {
                for (int b = a + 1; b < POLICIES; b++) {
                    if (contains(reach, a) && contains(reach, b)) {
                        most = Math.max(most, onOthers(a, b, x, y, reach, most));
                    }
                }
            }
            return most;
        }

        /** The greater sums of the discs with a and b on the rim in which the place lies, if more than the floor. */
        private int onOthers(int a, int b, int x, int y, int some, int floor) {
            if (!isNumber(a) || !isNumber(b)) {
                return floor;
            }
            int onLeft = book.sums(sets[a * POLICIES + b] & some);
            int onRight = book.sums(sets[b * POLICIES + a] & some);
            if (onLeft <= floor && onRight <= floor) {
                return floor;
            }
            int in = sidesAt(a, b, x, y);
            return Math.max((in & LEFT) != 0 ? onLeft : floor, (in & RIGHT) != 0 ? onRight : floor);
        }
    }

    /** A treaty; its discs follow its policies as they come, move and go. */
    private static final class Treaty {
        private final Book book;
        final Discs discs;
        int perils;
        int radius;
        int limit;
        int worstSet;
        int worstSums;
        int alarm;
        int alarmsHad;

        Treaty(Book book) {
            this.book = book;
            discs = new Discs(book);
        }

        void agree(int ofPerils, int ofRadius, int ofLimit) {
            perils = ofPerils;
            radius = ofRadius;
            limit = ofLimit;
            alarm = LACKING;
            alarmsHad = 0;
        }

        boolean takes(int peril) {
            return contains(perils, peril);
        }

        boolean isPassed() {
            return worstSums > limit;
        }

        void findWorst() {
            worstSet = discs.heaviestAmong(ALL);
            worstSums = book.sums(worstSet);
        }

        int worstWithout(int lapsed) {
            return book.sums(discs.heaviestAmong(ALL & ~lapsed));
        }

        boolean staysPassed(int lapsed) {
            return discs.hasMore(ALL & ~lapsed, limit);
        }

        boolean isFreedWith(int p) {
            for (int q = 0; q < POLICIES; q++) {
                if (contains(discs.members, q) && !staysPassed(1 << p | 1 << q)) {
                    return true;
                }
            }
            return false;
        }
    }

    /** The sets of discs that lie in no other one: what two or three discs hold is made of these. */
    private static final class Family {
        private final int[] sets = new int[POLICIES * POLICIES];
        private int size;

        void gather(Discs discs) {
            size = 0;
            for (int i = 0; i < sets.length; i++) {
                if (discs.at(i) != 0) {
                    keep(discs.at(i));
                }
            }
        }

        /** If it lies in a kept one, none before that one lay in it: nothing has been let go when it returns. */
        private void keep(int set) {
            int kept = 0;
            for (int i = 0; i < size && i < sets.length; i++) {
                if ((set & ~sets[i]) == 0) {
                    return;
                }
                if ((sets[i] & ~set) != 0 && kept < sets.length) {
                    sets[kept] = sets[i];
                    kept++;
                }
            }
            if (kept < sets.length) {
                sets[kept] = set;
                kept++;
            }
            size = kept;
        }

        int heaviestTwo(Book book) {
            int best = 0;
            int most = 0;
            for (int i = 0; i < size && i < sets.length; i++) {
                for (int j = i; j < size && j < sets.length; j++) {
                    int both = sets[i] | sets[j];
                    int sums = book.sums(both);
                    if (sums > most || sums == most && both < best) {
                        best = both;
                        most = sums;
                    }
                }
            }
            return best;
        }

        int fewestOver(int all) {
            if (isOneOver(all)) {
                return 1;
            }
            for (int i = 0; i < size && i < sets.length; i++) {
                if (contains(sets[i], leastOf(all)) && isOneOver(all & ~sets[i])) {
                    return 2;
                }
            }
            for (int i = 0; i < size && i < sets.length; i++) {
                if (contains(sets[i], leastOf(all)) && areTwoOver(all & ~sets[i])) {
                    return 3;
                }
            }
            return LACKING;
        }

        private boolean areTwoOver(int all) {
            for (int i = 0; i < size && i < sets.length; i++) {
                if (contains(sets[i], leastOf(all)) && isOneOver(all & ~sets[i])) {
                    return true;
                }
            }
            return false;
        }

        private boolean isOneOver(int all) {
            for (int i = 0; i < size && i < sets.length; i++) {
                if ((all & ~sets[i]) == 0) {
                    return true;
                }
            }
            return false;
        }

        private static int leastOf(int set) {
            return Integer.bitCount((set & -set) - 1);
        }
    }

    /** The least circle in which all of a set lie. */
    private static final class Circle {
        private final Book book;
        long above;
        long below;
        int first;
        int second;
        int third;

        Circle(Book book) {
            this.book = book;
        }

        void close(int set) {
            first = NONE;
            second = LACKING;
            third = LACKING;
            if (!isPoint(set) && !hasDiameter(set)) {
                findTriangle(set);
            }
        }

        private boolean isPoint(int set) {
            for (int p = 0; p < POLICIES; p++) {
                if (contains(set, p)) {
                    if ((set & ~book.within(book.xOf(p), book.yOf(p), 0)) != 0) {
                        return false;
                    }
                    first = first < 0 ? p : first;
                }
            }
            above = 0;
            below = 1;
            return true;
        }

        private boolean hasDiameter(int set) {
            for (int a = 0; a < POLICIES; a++) {
                for (int b = a + 1; b < POLICIES; b++) {
                    if (contains(set, a) && contains(set, b) && isDiameter(a, b, set)) {
                        first = a;
                        second = b;
                        reduce(book.between(a, b), 4);
                        return true;
                    }
                }
            }
            return false;
        }

        private boolean isDiameter(int a, int b, int set) {
            for (int p = 0; p < POLICIES; p++) {
                if (contains(set, p) && corner(p, a, b) > 0) {
                    return false;
                }
            }
            return true;
        }

        private void findTriangle(int set) {
            for (int a = 0; a < POLICIES; a++) {
                for (int b = a + 1; b < POLICIES; b++) {
                    for (int c = b + 1; c < POLICIES; c++) {
                        boolean all = contains(set, a) && contains(set, b) && contains(set, c);
                        if (all && isSharp(a, b, c) && isAround(a, b, c, set)) {
                            first = a;
                            second = b;
                            third = c;
                            long area = turn(a, b, c);
                            long sides = (long) book.between(a, b) * book.between(b, c) * book.between(c, a);
                            reduce(sides, 4 * area * area);
                            return;
                        }
                    }
                }
            }
        }

        private boolean isSharp(int a, int b, int c) {
            return turn(a, b, c) != 0 && corner(a, b, c) > 0 && corner(b, c, a) > 0 && corner(c, a, b) > 0;
        }

        private boolean isAround(int a, int b, int c, int set) {
            long turn = turn(a, b, c);
            for (int p = 0; p < POLICIES; p++) {
                if (contains(set, p)) {
                    long lift = book.between(a, p) * turn(p, b, c) + book.between(b, p) * turn(p, c, a)
                            + book.between(c, p) * turn(p, a, b);
                    if (turn > 0 ? lift < 0 : lift > 0) {
                        return false;
                    }
                }
            }
            return true;
        }

        /** Above 0 if the angle at p is less than 90 degrees, below 0 if it is more. */
        private int corner(int p, int a, int b) {
            return (book.xOf(a) - book.xOf(p)) * (book.xOf(b) - book.xOf(p))
                    + (book.yOf(a) - book.yOf(p)) * (book.yOf(b) - book.yOf(p));
        }

        /** Twice the triangle's area, above 0 if it goes to the left. */
        private long turn(int a, int b, int c) {
            return (long) (book.xOf(b) - book.xOf(a)) * (book.yOf(c) - book.yOf(a))
                    - (long) (book.yOf(b) - book.yOf(a)) * (book.xOf(c) - book.xOf(a));
        }

        private void reduce(long top, long bottom) {
            long a = top;
            long b = bottom;
            for (int i = 0; i < 1000 && b != 0; i++) {
                long rest = a % b;
                a = b;
                b = rest;
            }
            above = a == 0 ? top : top / a;
            below = a == 0 ? bottom : bottom / a;
        }
    }

    /** The storm told last. */
    private static final class Track {
        boolean told;
        int radius;
        int x;
        int y;
        int toX;
        int toY;
        int steps;

        int hitAt(Book book, int k) {
            return book.within(onWay(x, toX, k, steps), onWay(y, toY, k, steps), radius);
        }

        int hits(Book book) {
            int set = 0;
            for (int k = 0; k <= steps; k++) {
                set |= hitAt(book, k);
            }
            return set;
        }

        int fiercest(Book book) {
            int place = 0;
            int most = 0;
            for (int k = 0; k <= steps; k++) {
                int sums = book.sums(hitAt(book, k));
                if (sums > most) {
                    place = k;
                    most = sums;
                }
            }
            return place;
        }
    }

    /** Rows of three numbers; the latest stay, each where its own number modulo how many are kept puts it. */
    private static final class Records {
        private static final int PARTS = 3;

        private final int[] parts = new int[KEPT * PARTS];
        private final int lacking;
        int count;

        Records(int lacking) {
            this.lacking = lacking;
        }

        void note(int first, int second, int third) {
            int at = count % KEPT * PARTS;
            if (at >= 0 && at + 2 < parts.length) {
                parts[at] = first;
                parts[at + 1] = second;
                parts[at + 2] = third;
                count++;
            }
        }

        int latest(int i, int part) {
            if (i < 0 || i >= KEPT || i >= count) {
                return lacking;
            }
            int at = (count - 1 - i) % KEPT * PARTS + part;
            return at >= 0 && at < parts.length ? parts[at] : lacking;
        }
    }
}
