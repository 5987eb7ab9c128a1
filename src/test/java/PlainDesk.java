import java.math.BigDecimal;
import java.math.BigInteger;
import java.math.MathContext;
import java.util.ArrayList;
import java.util.List;

/**
 * The document once more, by other means, for tests to compare with: whether a set goes together is told by its
 * couples and triples (Helly's theorem) instead of by discs, discs with two on the rim by long decimals, least circles
 * by fractions, and nothing is kept from one question to the next.
 */
final class PlainDesk {
    static final long OUT_OF_BOUNDS = Long.MIN_VALUE + 1;
    static final long NO_SUCH_ELEMENT = Long.MIN_VALUE + 2;
    /** The question would take this desk too long. */
    static final long UNTOLD = Long.MIN_VALUE + 3;
    private static final int MIN = Integer.MIN_VALUE;

    static final class Policy {
        int x, y, sum, peril;

        Policy(int x, int y, int sum, int peril) {
            this.x = x;
            this.y = y;
            this.sum = sum;
            this.peril = peril;
        }
    }

    static final class Treaty {
        int perils, radius, limit, alarm = -2, had;
    }

    private Policy[] policies = new Policy[24];
    private List<Treaty> treaties = new ArrayList<>();
    private List<int[]> acts = new ArrayList<>();
    private List<int[]> alarms = new ArrayList<>();
    private final StringBuilder tape = new StringBuilder();
    private int[] storm;
    private int fault, faultPlace = -1;

    // ---- the text ----

    int feed(int... five) {
        if (tape.length() + 20 > 900) return -1;
        for (int v : five) {
            for (int s = 24; s >= 0; s -= 8) tape.append((char) (v >> s & 255));
        }
        return tape.length();
    }

    int text(int n) {
        if (n < 0 || n > tape.length()) return -2;
        String text = tape.substring(0, n);
        tape.setLength(0);
        List<int[]> tokens = tokens(text);
        List<int[]> lines = new ArrayList<>();
        fault = 0;
        faultPlace = -1;
        parse(text, tokens, lines);
        if (fault != 0) return -1;
        policies = new Policy[24];
        treaties = new ArrayList<>();
        acts = new ArrayList<>();
        alarms = new ArrayList<>();
        storm = null;
        int p = 0;
        for (int[] line : lines) {
            if (line.length == 4) policies[p++] = new Policy(line[0], line[1], line[2], line[3]);
        }
        for (int[] line : lines) {
            if (line.length == 3) addTreaty(line[0], line[1], line[2]);
        }
        return lines.size();
    }

    /** Each token: its kind (w, n, ; or ? for none), where it begins, where it ends. */
    private static List<int[]> tokens(String text) {
        List<int[]> tokens = new ArrayList<>();
        java.util.regex.Matcher m = java.util.regex.Pattern.compile("([a-z]+)|([0-9]+)|(;)|([\\n ]+)|([\\x00-\\xff])")
                .matcher(text);
        while (m.find()) {
            int kind = m.group(1) != null ? 'w' : m.group(2) != null ? 'n' : m.group(3) != null ? ';'
                    : m.group(4) != null ? ' ' : '?';
            if (kind != ' ') tokens.add(new int[] {kind, m.start(), m.end()});
        }
        return tokens;
    }

    private void parse(String text, List<int[]> tokens, List<int[]> lines) {
        int[][] least = {{1, 1, 1}, {0, 0, 1, 0}};
        int[][] most = {{15, 300, 9999999}, {299, 299, 99999, 3}};
        int[] count = new int[2];
        int[] room = {6, 24};
        int[] line = null;
        int kind = 0;
        int filled = 0;
        for (int[] token : tokens) {
            String sign = text.substring(token[1], token[2]);
            if (line == null) {
                if (!sign.equals("policy") && !sign.equals("treaty")) {
                    complain(1, token[1]);
                    return;
                }
                kind = sign.equals("policy") ? 1 : 0;
                if (++count[kind] > room[kind]) {
                    complain(2, token[1]);
                    return;
                }
                line = new int[3 + kind];
                filled = 0;
            } else if (filled == line.length) {
                if (token[0] != ';') {
                    complain(1, token[1]);
                    return;
                }
                lines.add(line);
                line = null;
            } else {
                if (token[0] != 'n') {
                    complain(1, token[1]);
                    return;
                }
                BigInteger number = new BigInteger(sign);
                if (number.compareTo(BigInteger.valueOf(least[kind][filled])) < 0
                        || number.compareTo(BigInteger.valueOf(most[kind][filled])) > 0) {
                    complain(2, token[1]);
                    return;
                }
                line[filled++] = number.intValue();
            }
        }
        if (line != null) complain(1, text.length());
    }

    private void complain(int what, int where) {
        fault = what;
        faultPlace = where;
    }

    int fault(int what) {
        return what == 0 ? fault : what == 1 ? faultPlace : -1;
    }

    // ---- what numbers may be ----

    private static boolean in(int v, int least, int most) {
        return v >= least && v <= most;
    }

    private static boolean place(int x, int y) {
        return in(x, 0, 299) && in(y, 0, 299);
    }

    private boolean has(int p) {
        return in(p, 0, 23) && policies[p] != null;
    }

    private boolean isTreaty(int t) {
        return in(t, 0, treaties.size() - 1);
    }

    private static int d2(Policy a, Policy b) {
        return (a.x - b.x) * (a.x - b.x) + (a.y - b.y) * (a.y - b.y);
    }

    private List<Integer> of(int perils) {
        List<Integer> found = new ArrayList<>();
        for (int p = 0; p < 24; p++) if (policies[p] != null && (perils >> policies[p].peril) % 2 == 1) found.add(p);
        return found;
    }

    private int sums(int set) {
        int sums = 0;
        for (int p = 0; p < 24; p++) if ((set >> p) % 2 == 1) sums += policies[p].sum;
        return sums;
    }

    private List<Integer> members(int set) {
        List<Integer> members = new ArrayList<>();
        for (int p = 0; p < 24; p++) if ((set >> p) % 2 == 1) members.add(p);
        return members;
    }

    private static int bits(List<Integer> set) {
        int bits = 0;
        for (int p : set) bits += 1 << p;
        return bits;
    }

    // ---- what goes together ----

    private static boolean fits(Policy a, Policy b, int r) {
        return d2(a, b) <= 4 * r * r;
    }

    private static boolean fits(Policy a, Policy b, Policy c, int r) {
        long p = d2(b, c), q = d2(c, a), s = d2(a, b);
        long longest = Math.max(p, Math.max(q, s));
        if (2 * longest >= p + q + s) return longest <= 4L * r * r;
        long cross = (long) (b.x - a.x) * (c.y - a.y) - (long) (b.y - a.y) * (c.x - a.x);
        BigInteger left = BigInteger.valueOf(p).multiply(BigInteger.valueOf(q)).multiply(BigInteger.valueOf(s));
        BigInteger right = BigInteger.valueOf(4L * r * r).multiply(BigInteger.valueOf(cross * cross));
        return left.compareTo(right) <= 0;
    }

    private static boolean joins(List<Policy> chosen, Policy more, int r) {
        for (int i = 0; i < chosen.size(); i++) {
            if (!fits(chosen.get(i), more, r)) return false;
            for (int j = 0; j < i; j++) if (!fits(chosen.get(i), chosen.get(j), more, r)) return false;
        }
        return true;
    }

    private int bestSums, bestBits;

    private void search(List<Policy> chosen, int sums, int bits, List<Policy> rest, List<Integer> names, int r) {
        if (sums > bestSums || sums == bestSums && bits < bestBits) {
            bestSums = sums;
            bestBits = bits;
        }
        int left = 0;
        for (Policy p : rest) left += p.sum;
        for (int i = 0; i < rest.size(); i++) {
            if (sums + left < bestSums) return;
            Policy next = rest.get(i);
            left -= next.sum;
            chosen.add(next);
            List<Policy> fit = new ArrayList<>();
            List<Integer> fitNames = new ArrayList<>();
            for (int j = i + 1; j < rest.size(); j++) {
                if (joins(chosen, rest.get(j), r)) {
                    fit.add(rest.get(j));
                    fitNames.add(names.get(j));
                }
            }
            search(chosen, sums + next.sum, bits + (1 << names.get(i)), fit, fitNames, r);
            chosen.remove(chosen.size() - 1);
        }
    }

    /** The bits of the HEAVIEST of some policies that go together with the forced ones. */
    private int heaviestWith(List<Integer> among, List<Policy> forced, int r) {
        List<Policy> rest = new ArrayList<>();
        List<Integer> names = new ArrayList<>();
        for (int p : among) {
            if (joins(forced, policies[p], r)) {
                rest.add(policies[p]);
                names.add(p);
            }
        }
        bestSums = 0;
        bestBits = 0;
        search(new ArrayList<>(forced), 0, 0, rest, names, r);
        return bestBits;
    }

    private int best(List<Integer> among, int r) {
        return heaviestWith(among, new ArrayList<>(), r);
    }

    private int worstSet(Treaty t) {
        return best(of(t.perils), t.radius);
    }

    private int worstWithout(Treaty t, List<Integer> gone) {
        List<Integer> left = of(t.perils);
        left.removeAll(gone);
        return sums(best(left, t.radius));
    }

    private int about(Treaty t, int x, int y, List<Integer> without) {
        List<Integer> left = of(t.perils);
        left.removeAll(without);
        List<Policy> forced = new ArrayList<>();
        forced.add(new Policy(x, y, 0, 0));
        return sums(heaviestWith(left, forced, t.radius));
    }

    // ---- acts ----

    int write(int x, int y, int sum, int peril) {
        if (!place(x, y) || !in(sum, 1, 99999) || !in(peril, 0, 3)) return -1;
        for (int p = 0; p < 24; p++) {
            if (policies[p] == null) {
                policies[p] = new Policy(x, y, sum, peril);
                act(0, p, sum);
                return p;
            }
        }
        return -2;
    }

    int move(int p, int x, int y) {
        if (!has(p) || !place(x, y)) return -1;
        Policy was = policies[p];
        policies[p] = new Policy(x, y, was.sum, was.peril);
        act(1, p, 0);
        return d2(was, policies[p]);
    }

    int change(int p, int sum) {
        if (!has(p) || !in(sum, 1, 99999)) return -1;
        int was = policies[p].sum;
        policies[p].sum = sum;
        act(2, p, sum - was);
        return was;
    }

    int lapse(int p) {
        if (!has(p)) return -1;
        int was = policies[p].sum;
        policies[p] = null;
        act(3, p, -was);
        return was;
    }

    private void act(int kind, int p, int more) {
        acts.add(0, new int[] {kind, p, more});
        lookAround();
    }

    private void lookAround() {
        for (int t = 0; t < treaties.size(); t++) {
            Treaty it = treaties.get(t);
            int worst = sums(worstSet(it));
            if (worst <= it.limit) it.alarm = -2;
            else if (it.alarm == -2) {
                it.alarm = acts.size();
                it.had++;
                alarms.add(0, new int[] {t, acts.size(), worst});
            }
        }
    }

    private void addTreaty(int perils, int radius, int limit) {
        Treaty it = new Treaty();
        it.perils = perils;
        it.radius = radius;
        it.limit = limit;
        treaties.add(it);
        lookAround();
    }

    int treaty(int perils, int radius, int limit) {
        if (!in(perils, 1, 15) || !in(radius, 1, 300) || !in(limit, 1, 9999999)) return -1;
        if (treaties.size() == 6) return -2;
        addTreaty(perils, radius, limit);
        return treaties.size() - 1;
    }

    int limit(int t, int limit) {
        if (!isTreaty(t) || !in(limit, 1, 9999999)) return -1;
        int was = treaties.get(t).limit;
        treaties.get(t).limit = limit;
        lookAround();
        return was;
    }

    // ---- what is asked ----

    long policy(int p, int what) {
        if (!has(p)) return OUT_OF_BOUNDS;
        if (!in(what, 0, 4)) return NO_SUCH_ELEMENT;
        Policy it = policies[p];
        int same = -1;
        for (Policy other : policies) if (other != null && d2(it, other) == 0) same++;
        return new int[] {it.x, it.y, it.sum, it.peril, same}[what];
    }

    int its(int t, int what) {
        if (!isTreaty(t) || !in(what, 0, 7)) return -1;
        Treaty it = treaties.get(t);
        List<Integer> own = of(it.perils);
        int passed = sums(worstSet(it)) > it.limit ? 1 : 0;
        return new int[] {it.perils, it.radius, it.limit, own.size(), sums(bits(own)), passed, it.alarm, it.had}[what];
    }

    int worst(int t, int what) {
        if (!isTreaty(t) || !in(what, 0, 2)) return MIN;
        int set = worstSet(treaties.get(t));
        return new int[] {sums(set), members(set).size(), treaties.get(t).limit - sums(set)}[what];
    }

    int inWorst(int t, int i) {
        if (!isTreaty(t) || i < 0) return -1;
        List<Integer> set = members(worstSet(treaties.get(t)));
        return i < set.size() ? set.get(i) : -2;
    }

    int bound(int t, int what) {
        if (!isTreaty(t) || !in(what, 0, 2)) return -1;
        Treaty it = treaties.get(t);
        int set = worstSet(it);
        if (set == 0) return -2;
        for (int p : members(set)) {
            if (aboutOne(it, policies[p]) == set) return new int[] {p, -2, 0}[what];
        }
        for (int a : members(set)) {
            for (int b : members(set)) {
                int far = d2(policies[a], policies[b]);
                if (b <= a || far == 0 || far > 4 * it.radius * it.radius) continue;
                for (int side = 0; side < 2; side++) {
                    if (onRims(it, policies[a], policies[b], side) == set) return new int[] {a, b, side}[what];
                }
            }
        }
        throw new IllegalStateException("a worst set without bounds");
    }

    private int aboutOne(Treaty it, Policy mid) {
        int set = 0;
        for (int p : of(it.perils)) if (d2(policies[p], mid) <= it.radius * it.radius) set += 1 << p;
        return set;
    }

    private static final MathContext LONG = new MathContext(80);
    private static final BigDecimal TINY = new BigDecimal("1e-40");

    private int onRims(Treaty it, Policy a, Policy b, int side) {
        BigDecimal far = BigDecimal.valueOf(d2(a, b));
        BigDecimal r2 = BigDecimal.valueOf((long) it.radius * it.radius);
        BigDecimal rise = r2.divide(far, LONG).subtract(new BigDecimal("0.25")).max(BigDecimal.ZERO).sqrt(LONG);
        if (side == 1) rise = rise.negate();
        BigDecimal mx = half(a.x + b.x).subtract(rise.multiply(BigDecimal.valueOf(b.y - a.y)));
        BigDecimal my = half(a.y + b.y).add(rise.multiply(BigDecimal.valueOf(b.x - a.x)));
        int set = 0;
        for (int p : of(it.perils)) {
            BigDecimal dx = mx.subtract(BigDecimal.valueOf(policies[p].x));
            BigDecimal dy = my.subtract(BigDecimal.valueOf(policies[p].y));
            if (dx.multiply(dx).add(dy.multiply(dy)).compareTo(r2.add(TINY)) <= 0) set += 1 << p;
        }
        return set;
    }

    private static BigDecimal half(int v) {
        return BigDecimal.valueOf(v).divide(BigDecimal.valueOf(2));
    }

    int spread(int t) {
        if (!isTreaty(t)) return -1;
        List<Integer> set = members(worstSet(treaties.get(t)));
        int most = -2;
        for (int p : set) for (int q : set) most = Math.max(most, d2(policies[p], policies[q]));
        return most;
    }

    /** A circle: its midst is x/n, y/n, its radius squared above/below. */
    private record Round(BigInteger x, BigInteger y, BigInteger n, BigInteger above, BigInteger below) {
        int against(Policy p) {
            BigInteger dx = x.subtract(n.multiply(BigInteger.valueOf(p.x)));
            BigInteger dy = y.subtract(n.multiply(BigInteger.valueOf(p.y)));
            return dx.multiply(dx).add(dy.multiply(dy)).multiply(below).compareTo(above.multiply(n).multiply(n));
        }

        boolean less(Round other) {
            return above.multiply(other.below).compareTo(other.above.multiply(below)) < 0;
        }
    }

    private static Round round(Policy a, Policy b) {
        return new Round(BigInteger.valueOf(a.x + b.x), BigInteger.valueOf(a.y + b.y), BigInteger.TWO,
                BigInteger.valueOf(d2(a, b)), BigInteger.valueOf(4));
    }

    private static Round round(Policy a, Policy b, Policy c) {
        long bx = b.x - a.x, by = b.y - a.y, cx = c.x - a.x, cy = c.y - a.y;
        long n = 2 * (bx * cy - by * cx);
        if (n == 0) return null;
        long ux = cy * (bx * bx + by * by) - by * (cx * cx + cy * cy);
        long uy = bx * (cx * cx + cy * cy) - cx * (bx * bx + by * by);
        BigInteger above = BigInteger.valueOf(ux).pow(2).add(BigInteger.valueOf(uy).pow(2));
        return new Round(BigInteger.valueOf(ux + n * a.x), BigInteger.valueOf(uy + n * a.y), BigInteger.valueOf(n),
                above, BigInteger.valueOf(n).pow(2));
    }

    private Round leastRound(List<Integer> set) {
        Round best = null;
        for (int a : set) {
            for (int b : set) {
                for (int c : set) {
                    Policy p = policies[a], q = policies[b], s = policies[c];
                    Round one = c == a || c == b ? round(p, q) : round(p, q, s);
                    if (a > b || b > c && c != a || one == null || best != null && !one.less(best)) continue;
                    boolean all = true;
                    for (int other : set) all = all && one.against(policies[other]) <= 0;
                    if (all) best = one;
                }
            }
        }
        return best;
    }

    long ring(int t, int what) {
        if (!isTreaty(t) || !in(what, 0, 4)) return -1;
        List<Integer> set = members(worstSet(treaties.get(t)));
        if (set.isEmpty()) return -2;
        Round least = leastRound(set);
        BigInteger common = least.above.gcd(least.below);
        if (what == 0) return least.above.divide(common).longValueExact();
        if (what == 1) return least.below.divide(common).longValueExact();
        return rimOf(set, least)[what - 2];
    }

    private int[] rimOf(List<Integer> set, Round least) {
        if (least.above.signum() == 0) return new int[] {set.get(0), -2, -2};
        for (int a : set) {
            for (int b : set) {
                BigInteger far = BigInteger.valueOf(d2(policies[a], policies[b])).multiply(least.below);
                if (a < b && far.equals(least.above.shiftLeft(2))) return new int[] {a, b, -2};
            }
        }
        for (int a : set) {
            for (int b : set) {
                for (int c : set) {
                    Policy p = policies[a], q = policies[b], s = policies[c];
                    long x = d2(q, s), y = d2(s, p), z = d2(p, q);
                    boolean rim = least.against(p) == 0 && least.against(q) == 0 && least.against(s) == 0;
                    if (a < b && b < c && rim && 2 * Math.max(x, Math.max(y, z)) < x + y + z) {
                        return new int[] {a, b, c};
                    }
                }
            }
        }
        throw new IllegalStateException("a least circle without a rim");
    }

    int part(int t, int p) {
        if (!isTreaty(t) || !has(p)) return -1;
        return sums(worstSet(treaties.get(t))) - worstWithout(treaties.get(t), List.of(p));
    }

    int second(int t) {
        if (!isTreaty(t)) return -1;
        return worstWithout(treaties.get(t), members(worstSet(treaties.get(t))));
    }

    int chains(int perils, int radius, int what) {
        if (!in(perils, 1, 15) || !in(radius, 0, 300) || !in(what, 0, 3)) return -1;
        List<Integer> set = of(perils);
        int[] name = new int[24];
        for (int p = 0; p < 24; p++) name[p] = p;
        for (int again = 0; again < 24; again++) {
            for (int p : set) {
                for (int q : set) {
                    if (d2(policies[p], policies[q]) <= radius * radius) name[p] = Math.min(name[p], name[q]);
                }
            }
        }
        int count = 0, longest = 0, heaviest = 0;
        for (int p : set) {
            List<Integer> chain = new ArrayList<>();
            for (int q : set) if (name[q] == p) chain.add(q);
            if (!chain.isEmpty()) count++;
            longest = Math.max(longest, chain.size());
            if (sums(bits(chain)) > sums(heaviest)) heaviest = bits(chain);
        }
        return new int[] {count, longest, sums(heaviest), heaviest}[what];
    }

    int tightest() {
        int first = -2;
        BigDecimal most = null;
        for (int t = 0; t < treaties.size(); t++) {
            BigDecimal now = BigDecimal.valueOf(sums(worstSet(treaties.get(t))))
                    .divide(BigDecimal.valueOf(treaties.get(t).limit), LONG);
            if (first < 0 || now.compareTo(most) > 0) {
                first = t;
                most = now;
            }
        }
        return first;
    }

    int together(int p, int q, int radius) {
        if (!has(p) || !has(q) || p == q || !in(radius, 1, 300)) return -1;
        return fits(policies[p], policies[q], radius) ? 1 : 0;
    }

    int heaviest(int perils, int radius) {
        if (!in(perils, 1, 15) || !in(radius, 1, 300)) return -1;
        return sums(best(of(perils), radius));
    }

    int heaviestSet(int perils, int radius) {
        if (!in(perils, 1, 15) || !in(radius, 1, 300)) return -1;
        return best(of(perils), radius);
    }

    /** All sets of these policies that lie in one disc together. */
    private List<Integer> allTogether(List<Integer> own, int radius) {
        List<Integer> found = new ArrayList<>();
        for (int i = 0; i < 1 << own.size(); i++) {
            List<Policy> chosen = new ArrayList<>();
            int set = 0;
            boolean fit = true;
            for (int j = 0; j < own.size() && fit; j++) {
                if ((i >> j) % 2 == 1) {
                    fit = joins(chosen, policies[own.get(j)], radius);
                    chosen.add(policies[own.get(j)]);
                    set += 1 << own.get(j);
                }
            }
            if (fit) found.add(set);
        }
        return found;
    }

    long two(int perils, int radius, int what) {
        if (!in(perils, 1, 15) || !in(radius, 1, 300) || !in(what, 0, 1)) return -1;
        List<Integer> own = of(perils);
        if (own.size() > 9) return UNTOLD;
        List<Integer> sets = allTogether(own, radius);
        int best = 0;
        for (int a : sets) {
            for (int b : sets) {
                int both = a | b;
                if (sums(both) > sums(best) || sums(both) == sums(best) && both < best) best = both;
            }
        }
        return what == 0 ? sums(best) : best;
    }

    long cover(int perils, int radius) {
        if (!in(perils, 1, 15) || !in(radius, 1, 300)) return -1;
        List<Integer> own = of(perils);
        if (own.size() > 9) return UNTOLD;
        int all = bits(own);
        if (all == 0) return 0;
        List<Integer> sets = allTogether(own, radius);
        int fewest = 4;
        for (int a : sets) {
            if (a == all) fewest = 1;
            for (int b : sets) {
                if (fewest > 2 && (a | b) == all) fewest = 2;
                if (fewest > 3 && sets.contains(all & ~a & ~b)) fewest = 3;
            }
        }
        return fewest == 4 ? -2 : fewest;
    }

    int square(int perils, int side, int what) {
        if (!in(perils, 1, 15) || !in(side, 0, 299) || !in(what, 0, 2)) return -1;
        int[] best = {0, -2, -2};
        for (int x = 0; x < 300; x++) {
            for (int y = 0; y < 300; y++) {
                boolean corner = false, line = false;
                int sums = 0;
                for (int p : of(perils)) {
                    Policy it = policies[p];
                    corner |= it.x == x;
                    line |= it.y == y;
                    if (in(it.x, x, x + side) && in(it.y, y, y + side)) sums += it.sum;
                }
                if (corner && line && (best[1] < 0 || sums > best[0])) best = new int[] {sums, x, y};
            }
        }
        return best[what];
    }

    int radiusFor(int perils, int n) {
        if (!in(perils, 1, 15) || n < 1) return -1;
        for (int r = 1; r <= 300; r++) if (heaviest(perils, r) >= n) return r;
        return -2;
    }

    int ifWritten(int t, int x, int y, int sum, int peril) {
        if (!isTreaty(t) || !place(x, y) || !in(sum, 1, 99999) || !in(peril, 0, 3)) return -1;
        Treaty it = treaties.get(t);
        int now = sums(worstSet(it));
        return (it.perils >> peril) % 2 == 0 ? now : Math.max(now, sum + about(it, x, y, List.of()));
    }

    int about(int t, int x, int y) {
        if (!isTreaty(t) || !place(x, y)) return -1;
        return about(treaties.get(t), x, y, List.of());
    }

    int most(int x, int y, int peril) {
        if (!place(x, y) || !in(peril, 0, 3)) return -1;
        int most = 99999;
        for (Treaty it : treaties) {
            if ((it.perils >> peril) % 2 == 0) continue;
            if (sums(worstSet(it)) > it.limit) return 0;
            most = Math.min(most, it.limit - about(it, x, y, List.of()));
        }
        return Math.max(0, most);
    }

    int places(int sum, int peril) {
        if (!in(sum, 1, 99999) || !in(peril, 0, 3)) return -1;
        int free = 0;
        for (int i = 0; i < 100; i++) if (freeAt(i / 10 * 30, i % 10 * 30, sum, peril)) free++;
        return free;
    }

    private boolean freeAt(int x, int y, int sum, int peril) {
        for (int t = 0; t < treaties.size(); t++) {
            boolean own = (treaties.get(t).perils >> peril) % 2 == 1;
            if (own && ifWritten(t, x, y, sum, peril) > treaties.get(t).limit) return false;
        }
        return true;
    }

    int relief(int t, int what) {
        if (!isTreaty(t) || !in(what, 0, 1)) return -1;
        int[] best = {-2, -2};
        for (int p : members(worstSet(treaties.get(t)))) {
            int then = worstWithout(treaties.get(t), List.of(p));
            if (best[0] < 0 || then < best[1]) best = new int[] {p, then};
        }
        return best[what];
    }

    int fewest(int t) {
        if (!isTreaty(t)) return -1;
        Treaty it = treaties.get(t);
        if (worstWithout(it, List.of()) <= it.limit) return 0;
        for (int p : of(15)) if (worstWithout(it, List.of(p)) <= it.limit) return 1;
        for (int p : of(15)) for (int q : of(15)) if (worstWithout(it, List.of(p, q)) <= it.limit) return 2;
        return -2;
    }

    int nearest(int p) {
        if (!has(p)) return -1;
        int nearest = -2;
        for (int q = 23; q >= 0; q--) {
            if (q == p || policies[q] == null) continue;
            if (nearest < 0 || d2(policies[p], policies[q]) <= d2(policies[p], policies[nearest])) nearest = q;
        }
        return nearest;
    }

    int couples(int radius) {
        if (!in(radius, 0, 300)) return -1;
        int couples = 0;
        for (int p : of(15)) {
            for (int q : of(15)) if (p < q && d2(policies[p], policies[q]) <= radius * radius) couples++;
        }
        return couples;
    }

    private static int onWay(int from, int to, int k, int n) {
        return from + (int) Math.floor((double) k * (to - from) / n + 1e-9);
    }

    int along(int t, int p, int x, int y, int n, int what) {
        if (!isTreaty(t) || !has(p) || !place(x, y) || !in(n, 1, 20) || !in(what, 0, 1)) return -1;
        Policy was = policies[p];
        int most = 0, first = -2;
        for (int k = 0; k <= n; k++) {
            policies[p] = new Policy(onWay(was.x, x, k, n), onWay(was.y, y, k, n), was.sum, was.peril);
            int worst = sums(worstSet(treaties.get(t)));
            most = Math.max(most, worst);
            if (first < 0 && worst > treaties.get(t).limit) first = k;
        }
        policies[p] = was;
        return what == 0 ? most : first;
    }

    int storm(int radius, int x, int y, int toX, int toY, int n) {
        if (!in(radius, 0, 300) || !place(x, y) || !place(toX, toY) || !in(n, 1, 100)) return -1;
        storm = new int[] {radius, x, y, toX, toY, n};
        return members(hitSet()).size();
    }

    private int hitAt(int k) {
        Policy mid = new Policy(onWay(storm[1], storm[3], k, storm[5]), onWay(storm[2], storm[4], k, storm[5]), 0, 0);
        int set = 0;
        for (int p : of(15)) if (d2(policies[p], mid) <= storm[0] * storm[0]) set |= 1 << p;
        return set;
    }

    private int hitSet() {
        int set = 0;
        for (int k = 0; k <= storm[5]; k++) set |= hitAt(k);
        return set;
    }

    int hit(int what) {
        if (!in(what, 0, 3)) return -1;
        if (storm == null) return -2;
        int place = 0;
        for (int k = 0; k <= storm[5]; k++) if (sums(hitAt(k)) > sums(hitAt(place))) place = k;
        return new int[] {hitSet(), sums(hitSet()), place, sums(hitAt(place))}[what];
    }

    int pays(int t) {
        if (!isTreaty(t)) return -1;
        if (storm == null) return -2;
        return Math.max(0, sums(hitSet() & bits(of(treaties.get(t).perils))) - treaties.get(t).limit);
    }

    int drawn(int t, int seed, int n, int what) {
        if (!isTreaty(t) || seed < 0 || !in(n, 1, 100) || !in(what, 0, 3)) return -1;
        Treaty it = treaties.get(t);
        BigInteger x = BigInteger.valueOf(seed);
        int[] found = new int[4];
        for (int i = 0; i < n; i++) {
            int[] mid = new int[2];
            for (int j = 0; j < 2; j++) {
                x = x.multiply(BigInteger.valueOf(1103515245)).add(BigInteger.valueOf(12345))
                        .mod(BigInteger.valueOf(2147483648L));
                mid[j] = x.divide(BigInteger.valueOf(65536)).mod(BigInteger.valueOf(300)).intValue();
            }
            int sums = sums(aboutOne(it, new Policy(mid[0], mid[1], 0, 0)));
            if (sums > found[0]) {
                found[0] = sums;
                found[1] = i;
            }
            if (sums > it.limit) found[2]++;
            found[3] += sums;
        }
        return found[what];
    }

    int alarm(int i, int what) {
        if (i < 0 || !in(what, 0, 2)) return -1;
        return i >= 30 || i >= alarms.size() ? -2 : alarms.get(i)[what];
    }

    int act(int i, int what) {
        if (i < 0 || !in(what, 0, 2) || i >= 30 || i >= acts.size()) return MIN;
        return acts.get(i)[what];
    }

    int count(int what) {
        if (!in(what, 0, 6)) return -1;
        int passed = 0;
        for (int t = 0; t < treaties.size(); t++) passed += its(t, 5);
        java.util.Set<Integer> places = new java.util.HashSet<>();
        for (int p : of(15)) places.add(policies[p].x * 1000 + policies[p].y);
        return new int[] {of(15).size(), treaties.size(), sums(bits(of(15))), passed, acts.size(), places.size(),
            tape.length()}[what];
    }
}
