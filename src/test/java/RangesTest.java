import java.util.ArrayList;
import java.util.Arrays;
import java.util.HashMap;
import java.util.List;
import java.util.Map;
import java.util.Set;
import java.util.TreeSet;

/**
 * Each number of each call (# in a row): the least and the greatest that is allowed are not refused, the first beyond
 * it on each side and those far beyond are; and nothing has changed behind a call that is refused, nor behind one that
 * asks. Whether something has is told by a picture of the whole desk, by calls of the face alone.
 */
public final class RangesTest extends Bench {
    private static final Set<String> ACTING = Set.of("feed", "text", "write", "move", "change", "lapse", "treaty", "limit", "storm");
    private static final long OUT = PlainDesk.OUT_OF_BOUNDS;
    private static final long NOSUCH = PlainDesk.NO_SUCH_ELEMENT;
    private static final int FULL = 0;
    private static final int HALF = 1;

    private final Map<Integer, List<Long>> pictures = new HashMap<>();
    private final Set<String> ranged = new TreeSet<>();
    private int state;

    public static void main(String[] args) {
        new RangesTest().end();
    }

    @Override
    void all() {
        state = FULL;
        actingRows();
        rowsOfTreaties();
        rowsOfPerils();
        otherRows();
        refused("feed(1, 2, 3, 4, 5)", -1);
        refused("feed(0, 0, 0, 0, 0)", -1);
        refused("write(5, 5, 7, 1)", -2);
        refused("treaty(1, 5, 7)", -2);
        asked("tightest()");
        state = HALF;
        actingRows();
        rowsOfPerils();
        rowsOfMissing();
        for (String name : Calls.NAMES) if (!ranged.contains(name)) complain("no row for " + name);
    }

    // ---- the rows ----

    private void actingRows() {
        row("write(#, 5, 7, 1)", 0, 299, -1);
        row("write(5, #, 7, 1)", 0, 299, -1);
        row("write(5, 5, #, 1)", 1, 99999, -1);
        row("write(5, 5, 7, #)", 0, 3, -1);
        row("move(2, #, 5)", 0, 299, -1);
        row("move(2, 5, #)", 0, 299, -1);
        row("change(2, #)", 1, 99999, -1);
        row("treaty(#, 5, 7)", 1, 15, -1);
        row("treaty(1, #, 7)", 1, 300, -1);
        row("treaty(1, 5, #)", 1, 9999999, -1);
        row("limit(1, #)", 1, 9999999, -1);
        row("storm(#, 1, 2, 3, 4, 5)", 0, 300, -1);
        row("storm(5, #, 2, 3, 4, 5)", 0, 299, -1);
        row("storm(5, 1, #, 3, 4, 5)", 0, 299, -1);
        row("storm(5, 1, 2, #, 4, 5)", 0, 299, -1);
        row("storm(5, 1, 2, 3, #, 5)", 0, 299, -1);
        row("storm(5, 1, 2, 3, 4, #)", 1, 100, -1);
    }

    private void rowsOfTreaties() {
        row("move(#, 5, 5)", 0, 23, -1);
        row("change(#, 5)", 0, 23, -1);
        row("lapse(#)", 0, 23, -1);
        row("policy(#, 2)", 0, 23, OUT);
        row("policy(#, 5)", 0, 23, OUT);
        row("policy(23, #)", 0, 4, NOSUCH);
        row("limit(#, 5)", 0, 5, -1);
        row("its(#, 2)", 0, 5, -1);
        row("its(5, #)", 0, 7, -1);
        row("worst(#, 0)", 0, 5, MIN);
        row("worst(5, #)", 0, 2, MIN);
        row("inWorst(#, 0)", 0, 5, -1);
        row("inWorst(5, #)", 0, MAX, -1);
        row("bound(#, 1)", 0, 5, -1);
        row("bound(5, #)", 0, 2, -1);
        row("spread(#)", 0, 5, -1);
        row("ring(#, 1)", 0, 5, -1);
        row("ring(5, #)", 0, 4, -1);
        row("part(#, 1)", 0, 5, -1);
        row("part(5, #)", 0, 23, -1);
        row("second(#)", 0, 5, -1);
        row("ifWritten(#, 1, 2, 3, 1)", 0, 5, -1);
        row("ifWritten(5, #, 2, 3, 1)", 0, 299, -1);
        row("ifWritten(5, 1, #, 3, 1)", 0, 299, -1);
        row("ifWritten(5, 1, 2, #, 1)", 1, 99999, -1);
        row("ifWritten(5, 1, 2, 3, #)", 0, 3, -1);
        row("about(#, 1, 2)", 0, 5, -1);
        row("about(5, #, 2)", 0, 299, -1);
        row("about(5, 1, #)", 0, 299, -1);
        row("relief(#, 1)", 0, 5, -1);
        row("relief(5, #)", 0, 1, -1);
        row("fewest(#)", 0, 5, -1);
        row("along(#, 1, 2, 3, 4, 0)", 0, 5, -1);
        row("along(5, #, 2, 3, 4, 0)", 0, 23, -1);
        row("along(5, 1, #, 3, 4, 0)", 0, 299, -1);
        row("along(5, 1, 2, #, 4, 0)", 0, 299, -1);
        row("along(5, 1, 2, 3, #, 0)", 1, 20, -1);
        row("along(5, 1, 2, 3, 4, #)", 0, 1, -1);
        row("pays(#)", 0, 5, -1);
        row("drawn(#, 1, 2, 0)", 0, 5, -1);
        row("drawn(5, #, 2, 0)", 0, MAX, -1);
        row("drawn(5, 1, #, 0)", 1, 100, -1);
        row("drawn(5, 1, 2, #)", 0, 3, -1);
    }

    private void rowsOfPerils() {
        row("chains(#, 1, 0)", 1, 15, -1);
        row("chains(1, #, 0)", 0, 300, -1);
        row("chains(1, 1, #)", 0, 3, -1);
        row("heaviest(#, 1)", 1, 15, -1);
        row("heaviest(1, #)", 1, 300, -1);
        row("heaviestSet(#, 1)", 1, 15, -1);
        row("heaviestSet(1, #)", 1, 300, -1);
        row("two(#, 1, 0)", 1, 15, -1);
        row("two(1, #, 0)", 1, 300, -1);
        row("two(1, 1, #)", 0, 1, -1);
        row("cover(#, 1)", 1, 15, -1);
        row("cover(1, #)", 1, 300, -1);
        row("square(#, 1, 0)", 1, 15, -1);
        row("square(1, #, 0)", 0, 299, -1);
        row("square(1, 1, #)", 0, 2, -1);
        row("radiusFor(#, 1)", 1, 15, -1);
        row("radiusFor(1, #)", 1, MAX, -1);
        row("most(#, 1, 2)", 0, 299, -1);
        row("most(1, #, 2)", 0, 299, -1);
        row("most(1, 2, #)", 0, 3, -1);
        row("places(#, 1)", 1, 99999, -1);
        row("places(1, #)", 0, 3, -1);
        row("couples(#)", 0, 300, -1);
        row("together(0, 2, #)", 1, 300, -1);
        row("hit(#)", 0, 3, -1);
        row("alarm(#, 1)", 0, MAX, -1);
        row("alarm(0, #)", 0, 2, -1);
        row("alarm(30, #)", 0, 2, -1);
        row("act(0, #)", 0, 2, MIN);
        row("count(#)", 0, 6, -1);
    }

    private void otherRows() {
        row("text(#)", 0, 900, -2);
        row("fault(#)", 0, 1, -1);
        row("together(#, 1, 5)", 2, 23, -1);
        row("together(1, #, 5)", 2, 23, -1);
        row("together(22, #, 5)", 0, 21, -1);
        row("nearest(#)", 0, 23, -1);
        row("act(#, 1)", 0, 29, MIN);
    }

    /** There is no policy 1 and no treaty 2 on this desk; and a number that is missing goes ahead of another answer. */
    private void rowsOfMissing() {
        for (int p : new int[] {1, 3, 23, 24, 25, 32, 34, -1, -2, MIN, MAX}) {
            for (String call : new String[] {"move(#, 5, 5)", "change(#, 5)", "lapse(#)", "part(0, #)", "together(0, #, 5)",
                "together(#, 2, 5)", "nearest(#)", "along(0, #, 2, 3, 4, 1)"}) {
                refused(call.replace("#", "" + p), -1);
            }
            refused("policy(" + p + ", 0)", OUT);
            refused("policy(" + p + ", 5)", OUT);
        }
        for (int t : new int[] {2, 5, 6, 7, 32, -1, MIN, MAX}) {
            for (String call : new String[] {"limit(#, 5)", "its(#, 0)", "inWorst(#, 99)", "bound(#, 0)", "spread(#)", "ring(#, 0)",
                "part(#, 0)", "second(#)", "ifWritten(#, 1, 2, 3, 0)", "about(#, 1, 2)", "relief(#, 0)", "fewest(#)",
                "along(#, 0, 2, 3, 4, 1)", "pays(#)", "drawn(#, 1, 2, 0)"}) {
                refused(call.replace("#", "" + t), -1);
            }
            refused("worst(" + t + ", 0)", MIN);
        }
        row("part(1, #)", 2, 2, -1);
        row("together(0, #, 5)", 2, 2, -1);
        row("nearest(#)", 2, 2, -1);
        row("inWorst(0, #)", 0, MAX, -1);
        row("act(#, 2)", 0, 5, MIN);
        row("text(#)", 0, 40, -2);
    }

    // ---- what is done with a row ----

    private void row(String call, int least, int most, long refusal) {
        for (int n : allowed(least, most)) {
            String now = call.replace("#", "" + n);
            if (ACTING.contains(name(call))) answers(now, refusal);
            else asked(now, refusal);
        }
        for (long n : beyond(least, most)) refused(call.replace("#", "" + n), refusal);
    }

    private static int[] allowed(int least, int most) {
        if (most - least > 8 || most - least < 0) return new int[] {least, most};
        int[] all = new int[most - least + 1];
        for (int i = 0; i < all.length; i++) all[i] = least + i;
        return all;
    }

    private static Set<Long> beyond(int least, int most) {
        Set<Long> beyond = new TreeSet<>(Arrays.asList((long) MIN, (long) MIN + least, least - 1L));
        if (most < MAX) beyond.addAll(Arrays.asList((long) MAX, most + 1L, most + 32L, most + 65536L));
        return beyond;
    }

    private static String name(String call) {
        return call.substring(0, call.indexOf('('));
    }

    private void answers(String call, long refusal) {
        setUp();
        long got = ask(call);
        asked++;
        ranged.add(name(call));
        if (got == refusal) complain(call + " is refused");
    }

    private void asked(String call) {
        asked(call, Long.MAX_VALUE);
    }

    private void asked(String call, long refusal) {
        answers(call, refusal);
        looksAsBefore(call);
    }

    private void refused(String call, long refusal) {
        setUp();
        same(call, ask(call), refusal);
        ranged.add(name(call));
        looksAsBefore(call);
    }

    private void looksAsBefore(String call) {
        List<Long> now = picture();
        if (!pictures.containsKey(state)) {
            setUp();
            pictures.put(state, picture());
        }
        asked++;
        if (!now.equals(pictures.get(state))) complain(call + " changes what the desk answers");
    }

    // ---- desks, and what they look like ----

    private void setUp() {
        anew();
        if (state == FULL) setUpFull();
        else setUpHalf();
    }

    /** 24 policies, 6 treaties, more than 30 acts and alarms, a tape of 900 bytes, a fault and a storm told. */
    private void setUpFull() {
        StringBuilder text = new StringBuilder("policy 0 0 1 1;");
        for (int p = 1; p < 24; p++) {
            text.append("policy ").append(p * 37 % 290).append(' ').append(p * 53 % 299);
            text.append(' ').append(p * 7).append(' ').append(p % 4).append(';');
        }
        tell(text + "treaty 15 5 200;treaty 15 40 300;treaty 1 90 250;treaty 2 5 160;treaty 15 300 9999;treaty 15 70 999;");
        tell("policy 300");
        ask("storm", 30, 0, 0, 280, 290, 40);
        for (int i = 0; i < 33; i++) {
            ask("change", 0, 900 + i);
            ask("change", 0, 1);
        }
        for (int i = 0; i < 24; i++) feed("policy " + (i + 3) + " 2 3 0;");
        int blanks = 538976288;
        for (int bytes = 480; bytes < 900; bytes += 20) ask("feed", blanks, blanks, blanks, blanks, blanks);
    }

    /** Two policies with a number free between them, two treaties, few acts, a tape of 40 bytes, nothing told. */
    private void setUpHalf() {
        due("write(5, 6, 7, 0) = 0; write(8, 9, 10, 1) = 1; write(8, 10, 11, 2) = 2; treaty(15, 5, 16) = 0; treaty(15, 5, 20) = 1");
        due("move(1, 8, 8) = 1; lapse(1) = 10; change(0, 8) = 7");
        feed("policy 7 7 7 3;treaty 1 2 3;");
    }

    private List<Long> picture() {
        List<Long> seen = new ArrayList<>();
        for (int what = 0; what < 7; what++) seen.add(ask("count", what));
        for (int what = 0; what < 2; what++) seen.add(ask("fault", what));
        for (int what = 0; what < 4; what++) seen.add(ask("hit", what));
        for (int p = 0; p < 24; p++) for (int what = 0; what < 4; what++) seen.add(ask("policy", p, what));
        for (int t = 0; t < 6; t++) {
            for (int what = 0; what < 8; what++) seen.add(ask("its", t, what));
            seen.add(ask("worst", t, 0));
            seen.add(ask("worst", t, 1));
            seen.add(ask("bound", t, 0));
            seen.add(ask("pays", t));
        }
        for (int i : new int[] {0, 1, 2, 15, 29, 30}) {
            for (int what = 0; what < 3; what++) {
                seen.add(ask("alarm", i, what));
                seen.add(ask("act", i, what));
            }
        }
        seen.add(ask("text", (int) ask("count", 6)));
        for (int p = 0; p < 24; p += 23) for (int what = 0; what < 4; what++) seen.add(ask("policy", p, what));
        seen.add(ask("its", 0, 2));
        return seen;
    }
}
