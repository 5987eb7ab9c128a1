/** The edges of promises 13 to 19 and 21, which ask of WORST. */
final class EdgesOfWorst extends Edges {
    @Override
    void all() {
        worstAsked();
        inWorst();
        boundsAsked();
        spreadAsked();
        ringAsked();
        partAsked();
        secondAsked();
        tightestAsked();
    }

    /** Promise 13. */
    private void worstAsked() {
        holds("13", "WORST of a TREATY, what 0 SUMS, 1 how many POLICIES, 2 by how much LIMIT is more (below 0: less);",
                "treaty(1, 1, 25) = 0; worst(0, 0) = 0; worst(0, 1) = 0; worst(0, 2) = 25; write(0, 0, 24, 0) = 0",
                "worst(0, 0) = 24; worst(0, 1) = 1; worst(0, 2) = 1",
                "write(2, 0, 1, 0) = 1; worst(0, 0) = 25; worst(0, 1) = 2; worst(0, 2) = 0; change(1, 2) = 1",
                "worst(0, 0) = 26; worst(0, 2) = -1; limit(0, 9999999) = 25; worst(0, 2) = 9999973");
        anew();
        for (int p = 0; p < 24; p++) same("write", ask("write", p % 2 * 299, p % 3 * 149, 99999, p % 4), p);
        due("treaty(15, 300, 1) = 0; worst(0, 0) = 2399976; worst(0, 1) = 24; worst(0, 2) = -2399975");
        holds("13", "Integer.MIN_VALUE: no such ones.",
                "worst(0, 0) = MIN; treaty(1, 1, 1) = 0; worst(0, -1) = MIN; worst(0, 3) = MIN; worst(0, MIN) = MIN",
                "worst(0, MAX) = MIN; worst(1, 0) = MIN; worst(-1, 0) = MIN; worst(6, 0) = MIN; worst(MAX, 2) = MIN");
    }

    /** Promise 14. */
    private void inWorst() {
        holds("14", "The i-th POLICY (0 on, by numbers) of WORST;",
                "treaty(1, 1, 9) = 0; write(0, 0, 5, 1) = 0; write(0, 0, 5, 0) = 1; write(90, 0, 1, 0) = 2",
                "write(1, 0, 9, 0) = 3; write(0, 1, 1, 0) = 4",
                "inWorst(0, 0) = 1; inWorst(0, 1) = 3; inWorst(0, 2) = 4; move(1, 0, 1) = 1; inWorst(0, 0) = 1");
        anew();
        for (int p = 0; p < 24; p++) same("write", ask("write", 7, 7, 1, 0), p);
        due("treaty(1, 1, 1) = 0; inWorst(0, 0) = 0; inWorst(0, 23) = 23; inWorst(0, 24) = -2");
        holds("14", "-2: it has not so many;",
                "treaty(1, 1, 9) = 0; inWorst(0, 0) = -2; inWorst(0, MAX) = -2; write(0, 0, 1, 0) = 0; inWorst(0, 0) = 0",
                "inWorst(0, 1) = -2; inWorst(0, 23) = -2; inWorst(0, 24) = -2; inWorst(0, 32) = -2; inWorst(0, MAX) = -2");
        holds("14", "NONE: no such ones.",
                "inWorst(0, 0) = -1; treaty(1, 1, 9) = 0; inWorst(1, 0) = -1; inWorst(-1, 0) = -1; inWorst(6, 99) = -1",
                "inWorst(0, -1) = -1; inWorst(0, MIN) = -1; write(0, 0, 1, 0) = 0; inWorst(0, -1) = -1; inWorst(1, 9) = -1");
    }

    /** Promise 15. */
    private void boundsAsked() {
        holds("15", "BOUNDS of WORST, what 0 the first, 1 the second (-2: one alone), 2 SIDE;",
                "treaty(1, 5, 9) = 0; write(0, 90, 1, 1) = 0; write(0, 0, 1, 0) = 1; bound(0, 0) = 1; bound(0, 1) = -2",
                "bound(0, 2) = 0",
                "write(6, 8, 1, 0) = 2; bound(0, 0) = 1; bound(0, 1) = 2; bound(0, 2) = 0; move(2, 0, 8) = 36",
                "write(3, 4, 1, 0) = 3; bound(0, 0) = 3; bound(0, 1) = -2; move(3, 4, 4) = 1; bound(0, 0) = 1",
                "bound(0, 1) = 2; bound(0, 2) = 1");
        holds("15", "-2: there are none;",
                "treaty(1, 5, 9) = 0; bound(0, 0) = -2; bound(0, 1) = -2; bound(0, 2) = -2; write(0, 0, 1, 1) = 0",
                "bound(0, 0) = -2; bound(0, 2) = -2");
        holds("15", "NONE: no such ones.",
                "bound(0, 0) = -1; treaty(1, 5, 9) = 0; bound(0, -1) = -1; bound(0, 3) = -1; write(0, 0, 1, 0) = 0",
                "bound(0, -1) = -1; bound(0, 3) = -1; bound(0, MIN) = -1; bound(0, MAX) = -1; bound(1, 0) = -1",
                "bound(-1, 0) = -1; bound(MAX, 1) = -1");
    }

    /** Promise 16. */
    private void spreadAsked() {
        holds("16", "Of WORST the greatest distance of two POLICIES, squared;",
                "treaty(1, 5, 9) = 0; write(0, 0, 1, 0) = 0; spread(0) = 0; write(0, 0, 1, 0) = 1; spread(0) = 0",
                "write(3, 4, 1, 0) = 2; spread(0) = 25; write(6, 8, 1, 0) = 3; spread(0) = 100; write(200, 0, 3, 0) = 4",
                "spread(0) = 100",
                "change(4, 5) = 3; spread(0) = 0; treaty(1, 300, 9) = 1; spread(1) = 40000; move(4, 299, 299) = 99202",
                "spread(1) = 178802");
        holds("16", "-2: it is empty;",
                "treaty(1, 5, 9) = 0; spread(0) = -2; write(0, 0, 1, 3) = 0; spread(0) = -2; write(0, 0, 1, 0) = 1",
                "spread(0) = 0; lapse(1) = 1; spread(0) = -2");
        holds("16", "NONE: no such TREATY.",
                "spread(0) = -1; treaty(1, 5, 9) = 0; spread(1) = -1; spread(-1) = -1; spread(6) = -1; spread(MIN) = -1",
                "spread(MAX) = -1");
    }

    /** Promise 17. */
    private void ringAsked() {
        holds("17", "The least circle in which all of WORST lie (its rim, too), what 0, 1 its radius squared, above, below, in lowest"
                + " terms (as long), 2, 3, 4 POLICIES on its rim:",
                "treaty(1, 300, 9) = 0; write(0, 0, 1, 0) = 0; write(6, 8, 1, 0) = 1; ring(0, 0) = 25; ring(0, 1) = 1",
                "move(1, 1, 0) = 89; ring(0, 0) = 1; ring(0, 1) = 4; move(1, 1, 1) = 1; ring(0, 0) = 1; ring(0, 1) = 2",
                "move(1, 299, 299) = 177608; ring(0, 0) = 89401; ring(0, 1) = 2",
                // those of other treaties are not of it, nor are those that are not of WORST
                "write(0, 299, 1, 1) = 2; ring(0, 0) = 89401; treaty(3, 5, 9) = 1; ring(1, 0) = 0; ring(1, 2) = 0",
                "write(0, 298, 1, 0) = 3; ring(1, 0) = 1; ring(1, 1) = 4; ring(1, 2) = 2; ring(1, 3) = 3",
                // more than an int has
                "anew", "write(159, 31, 1, 0) = 0; write(128, 212, 1, 0) = 1; write(240, 168, 1, 0) = 2; treaty(1, 94, 9) = 0",
                "ring(0, 0) = 193257831325; ring(0, 1) = 22344529",
                "anew", "write(220, 176, 1, 0) = 0; write(275, 49, 1, 0) = 1; write(2, 23, 1, 0) = 2; treaty(1, 140, 9) = 0",
                "ring(0, 0) = 302299776745; ring(0, 1) = 15423458; ring(0, 2) = 0; ring(0, 3) = 1; ring(0, 4) = 2",
                // of three a fourth one lies on the rim, just in it, just out of it
                "anew", "treaty(1, 300, 9) = 0; write(20, 0, 1, 0) = 0; write(8, 36, 1, 0) = 1; write(32, 36, 1, 0) = 2",
                "ring(0, 0) = 400; ring(0, 1) = 1; write(4, 32, 1, 0) = 3; ring(0, 0) = 400; move(3, 4, 31) = 1",
                "ring(0, 0) = 400",
                "move(3, 3, 32) = 2; ring(0, 0) = 5626205; ring(0, 1) = 13778");
        holds("17", "at one place alone: the least (-2, -2);",
                "treaty(2, 1, 9) = 0; write(5, 5, 1, 0) = 0; write(5, 5, 1, 1) = 1; ring(0, 0) = 0; ring(0, 1) = 1",
                "ring(0, 2) = 1; ring(0, 3) = -2; ring(0, 4) = -2",
                "write(5, 5, 1, 1) = 2; write(5, 5, 1, 1) = 3; ring(0, 0) = 0; ring(0, 1) = 1; ring(0, 2) = 1",
                "ring(0, 3) = -2; ring(0, 4) = -2; lapse(1) = 1; ring(0, 2) = 2; move(3, 5, 6) = 1; ring(0, 2) = 2",
                "ring(0, 3) = 3");
        holds("17", "at one place alone: the least (-2, -2);",
                "treaty(1, 1, 9) = 0; write(5, 5, 1, 0) = 0; ring(0, 2) = 0; ring(0, 3) = -2; ring(0, 4) = -2",
                "write(5, 5, 1, 0) = 1; write(5, 5, 1, 0) = 2; ring(0, 0) = 0; ring(0, 1) = 1; ring(0, 2) = 0",
                "ring(0, 3) = -2; ring(0, 4) = -2");
        holds("17", "else two whose line is its diameter, the first such ones (-2);",
                "treaty(1, 300, 9) = 0; write(5, 5, 1, 0) = 0; write(9, 5, 1, 0) = 1; write(0, 5, 1, 0) = 2",
                "write(10, 5, 1, 0) = 3; write(10, 5, 1, 0) = 4; ring(0, 0) = 25; ring(0, 2) = 2; ring(0, 3) = 3",
                "ring(0, 4) = -2",
                // though 0, 2, 3 are three of the other kind
                "anew", "treaty(1, 4, 9) = 0; write(1, 6, 1, 0) = 0; write(3, 8, 1, 0) = 1; write(6, 1, 1, 0) = 2",
                "write(6, 8, 1, 0) = 3; ring(0, 0) = 29; ring(0, 1) = 2; ring(0, 2) = 1; ring(0, 3) = 2; ring(0, 4) = -2",
                // a right angle; two diameters; both with one at the same place
                "anew", "treaty(1, 300, 9) = 0; write(0, 0, 1, 0) = 0; write(6, 0, 1, 0) = 1; write(0, 8, 1, 0) = 2; ring(0, 0) = 25",
                "ring(0, 1) = 1; ring(0, 2) = 1; ring(0, 3) = 2; ring(0, 4) = -2",
                "write(6, 8, 1, 0) = 3; ring(0, 2) = 0; ring(0, 3) = 3; ring(0, 4) = -2; write(0, 0, 1, 0) = 4",
                "ring(0, 2) = 0; lapse(0) = 1; ring(0, 2) = 1; ring(0, 3) = 2; lapse(1) = 1; ring(0, 2) = 3; ring(0, 3) = 4");
        holds("17", "else three, no angle of whose triangle is 90 degrees or more, the first such ones;",
                "treaty(1, 300, 9) = 0; write(0, 0, 1, 0) = 0; write(7, 0, 1, 0) = 1; write(0, 7, 1, 0) = 2; ring(0, 3) = 2",
                "ring(0, 4) = -2; move(0, 1, 1) = 2; ring(0, 2) = 1; ring(0, 4) = -2",
                "move(2, 4, 7) = 16; move(0, 0, 0) = 2; ring(0, 2) = 0; ring(0, 3) = 1; ring(0, 4) = 2",
                // 0, 1, 2 have an angle of more than 90 degrees; 3 makes 0, 2, 3 the first without one
                "anew", "treaty(1, 300, 9) = 0; write(0, 25, 1, 0) = 0; write(10, 45, 1, 0) = 1; write(45, 40, 1, 0) = 2",
                "write(32, 1, 1, 0) = 3; ring(0, 0) = 625; ring(0, 1) = 1; ring(0, 2) = 0; ring(0, 3) = 2; ring(0, 4) = 3",
                // angles that are a little less than 90 degrees, at each of the three
                "anew", "treaty(1, 300, 9) = 0; write(0, 1, 1, 0) = 0; write(2, 2, 1, 0) = 1; write(1, 0, 1, 0) = 2; ring(0, 0) = 25",
                "ring(0, 1) = 18; ring(0, 2) = 0; ring(0, 3) = 1; ring(0, 4) = 2",
                "move(0, 2, 2) = 5; move(1, 0, 1) = 5; ring(0, 0) = 25; ring(0, 1) = 18; ring(0, 4) = 2",
                "anew", "treaty(1, 300, 9) = 0; write(0, 25, 1, 0) = 0; write(10, 45, 1, 0) = 1; write(45, 40, 1, 0) = 2",
                "write(32, 1, 1, 0) = 3",
                // a place that two of them share
                "write(45, 40, 1, 0) = 4; ring(0, 3) = 2; lapse(2) = 1; ring(0, 2) = 0; ring(0, 3) = 3; ring(0, 4) = 4",
                // three that have all in their circle, but an angle of more than 90 degrees: at the third, the second, the first
                "anew", "treaty(1, 5, 9) = 0; write(2, 1, 1, 0) = 0; write(2, 6, 1, 0) = 1; write(1, 4, 1, 0) = 2",
                "write(6, 4, 1, 0) = 3; ring(0, 0) = 125; ring(0, 1) = 16; ring(0, 2) = 0; ring(0, 3) = 1; ring(0, 4) = 3",
                "anew", "treaty(1, 5, 9) = 0; write(1, 4, 1, 0) = 0; write(3, 1, 1, 0) = 1; write(5, 0, 1, 0) = 2",
                "write(6, 7, 1, 0) = 3; ring(0, 0) = 425; ring(0, 1) = 32; ring(0, 2) = 0; ring(0, 3) = 2; ring(0, 4) = 3",
                "anew", "treaty(1, 7, 9) = 0; write(10, 8, 1, 0) = 0; write(2, 10, 1, 0) = 1; write(8, 1, 1, 0) = 2",
                "write(12, 7, 1, 0) = 3; ring(0, 0) = 18421; ring(0, 1) = 576; ring(0, 2) = 1; ring(0, 3) = 2; ring(0, 4) = 3",
                // one that is not of WORST, with two that are
                "anew", "treaty(1, 7, 9) = 0; write(14, 11, 1, 0) = 0; write(7, 12, 2, 0) = 1; write(10, 1, 1, 0) = 2",
                "write(0, 8, 3, 0) = 3; worst(0, 1) = 3; inWorst(0, 0) = 1; ring(0, 0) = 629525; ring(0, 1) = 15842",
                "ring(0, 2) = 1; ring(0, 3) = 2; ring(0, 4) = 3");
        holds("17", "-2: WORST is empty;",
                "treaty(1, 5, 9) = 0; ring(0, 0) = -2; ring(0, 1) = -2; ring(0, 2) = -2; ring(0, 3) = -2; ring(0, 4) = -2",
                "write(0, 0, 1, 1) = 0; ring(0, 0) = -2; write(0, 0, 1, 0) = 1; ring(0, 0) = 0");
        holds("17", "NONE: no such ones.",
                "ring(0, 0) = -1; treaty(1, 5, 9) = 0; ring(0, -1) = -1; ring(0, 5) = -1; write(0, 0, 1, 0) = 0",
                "ring(0, -1) = -1; ring(0, 5) = -1; ring(0, MIN) = -1; ring(0, MAX) = -1; ring(1, 0) = -1; ring(-1, 4) = -1");
    }

    /** Promise 18. */
    private void partAsked() {
        holds("18", "By how much WORST would be less, had a POLICY lapsed;",
                "treaty(1, 5, 9) = 0; write(0, 0, 10, 0) = 0; part(0, 0) = 10; write(6, 8, 20, 0) = 1; part(0, 0) = 10",
                "part(0, 1) = 20",
                // another SET is WORST then; one of another peril, and one that is not of WORST, make nothing less
                "write(100, 0, 25, 0) = 2; part(0, 0) = 5; part(0, 1) = 5; part(0, 2) = 0; write(0, 0, 99, 1) = 3",
                "part(0, 3) = 0; write(200, 0, 30, 0) = 4; part(0, 0) = 0; part(0, 1) = 0",
                "worst(0, 0) = 30; count(0) = 5");
        holds("18", "NONE: no such ones.",
                "part(0, 0) = -1; treaty(1, 5, 9) = 0; part(0, 0) = -1; write(0, 0, 1, 0) = 0; part(0, 1) = -1",
                "part(0, -1) = -1; part(0, 24) = -1; part(0, 32) = -1; part(0, MIN) = -1; part(0, MAX) = -1; part(1, 0) = -1",
                "part(-1, 0) = -1; part(6, 0) = -1; lapse(0) = 1; part(0, 0) = -1");
    }

    /** Promise 19. */
    private void secondAsked() {
        holds("19", "SUMS of the HEAVIEST of POLICIES of a TREATY by its RADIUS that aren't of WORST;",
                "treaty(1, 5, 9) = 0; second(0) = 0; write(0, 0, 10, 0) = 0; second(0) = 0; write(0, 0, 10, 0) = 1",
                "second(0) = 0; write(11, 0, 4, 0) = 2; second(0) = 4",
                // with one of WORST it would be more; one of another peril is none of the treaty's
                "write(20, 0, 5, 0) = 3; second(0) = 9; move(3, 22, 0) = 4; second(0) = 5; write(22, 0, 9, 1) = 4",
                "second(0) = 5; change(2, 5) = 4; second(0) = 5; move(3, 21, 0) = 1; second(0) = 10");
        holds("19", "NONE: no such TREATY.",
                "second(0) = -1; treaty(1, 5, 9) = 0; second(1) = -1; second(-1) = -1; second(6) = -1; second(MIN) = -1",
                "second(MAX) = -1");
    }

    /** Promise 21. */
    private void tightestAsked() {
        holds("21", "The TREATY of which WORST is most by LIMIT (as fractions), the first;",
                "treaty(1, 1, 7) = 0; treaty(2, 1, 1) = 1; tightest() = 0; write(0, 0, 2, 0) = 0; tightest() = 0",
                "write(0, 0, 1, 1) = 1; tightest() = 1; limit(1, 4) = 1; tightest() = 0; limit(0, 8) = 7; tightest() = 0",
                "limit(0, 9) = 8; tightest() = 1",
                // not the most that is left, nor the most SUMS
                "limit(0, 9999999) = 9; change(0, 99999) = 2; limit(1, 101) = 4; tightest() = 0; limit(1, 100) = 101",
                "tightest() = 1",
                "anew", "treaty(1, 1, 9999999) = 0; treaty(2, 1, 9999998) = 1; write(0, 0, 99999, 0) = 0; write(9, 0, 99999, 1) = 1",
                "tightest() = 1; limit(1, 9999999) = 9999998; tightest() = 0; change(0, 99998) = 99999; tightest() = 1");
        anew();
        for (int p = 0; p < 24; p++) same("write", ask("write", 5, 5, 99999, p % 2), p);
        due("treaty(3, 1, 9999999) = 0; treaty(3, 1, 9999998) = 1; tightest() = 1; treaty(1, 1, 4999999) = 2; tightest() = 1");
        due("limit(2, 4999998) = 4999999; tightest() = 2; limit(2, 5000000) = 4999998; tightest() = 1");
        due("limit(1, 9999999) = 9999998; tightest() = 0");
        holds("21", "-2: there are none.",
                "tightest() = -2; write(0, 0, 1, 0) = 0; tightest() = -2; treaty(8, 1, 9999999) = 0; tightest() = 0",
                "text(0) = 0; tightest() = -2");
    }
}
