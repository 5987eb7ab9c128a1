/** The edges of promises 20, 22 to 28, 35 and 36: policies of some perils, and how near they are to one another. */
final class EdgesOfPerils extends Edges {
    @Override
    void all() {
        chainsAsked();
        togetherAsked();
        heaviestAsked();
        heaviestAsBits();
        twoDiscs();
        coverAsked();
        squareAsked();
        radiusAsked();
        nearestAsked();
        couplesAsked();
    }

    /** Promise 20. */
    private void chainsAsked() {
        holds("20", "CHAINS: POLICIES of some PERILS 1 .. 15, from one to another one no farther than a RADIUS 0 .. 300: what 0 how many"
                + " there are, 1 the most POLICIES of one, 2 the most SUMS of one, 3 the CHAIN of the most SUMS as bits, of like ones that"
                + " with the least POLICY;",
                "chains(1, 0, 0) = 0; chains(15, 300, 1) = 0; chains(15, 300, 2) = 0; chains(15, 300, 3) = 0",
                "write(3, 4, 5, 0) = 0; chains(1, 0, 0) = 1; chains(1, 0, 1) = 1; chains(1, 0, 2) = 5; chains(1, 0, 3) = 1",
                // 5 apart, and a little more
                "write(0, 0, 1, 0) = 1; chains(1, 5, 0) = 1; chains(1, 4, 0) = 2; chains(1, 5, 3) = 3; move(1, 0, 8) = 64",
                "chains(1, 5, 0) = 1; move(1, 0, 9) = 1; chains(1, 5, 0) = 2",
                // of the radius 0 those at one place; across the whole by 300 only over another one
                "move(1, 3, 4) = 34; chains(1, 0, 0) = 1; chains(1, 0, 1) = 2; write(299, 299, 1, 3) = 2",
                "chains(15, 300, 0) = 2; chains(15, 0, 0) = 2; write(150, 150, 1, 1) = 3; chains(15, 300, 0) = 1",
                "chains(9, 300, 0) = 2; chains(2, 0, 3) = 8",
                // the most POLICIES and the most SUMS are of unlike ones; of like ones the least POLICY, not the least bits
                "anew", "write(0, 0, 4, 0) = 0; write(100, 0, 2, 0) = 1; write(102, 0, 1, 0) = 2; write(104, 0, 0, 0) = -1",
                "write(104, 0, 1, 0) = 3; chains(1, 2, 0) = 2; chains(1, 2, 1) = 3; chains(1, 2, 2) = 4; chains(1, 2, 3) = 1",
                "change(0, 3) = 4; chains(1, 2, 2) = 4; chains(1, 2, 3) = 14; write(0, 0, 1, 0) = 4; chains(1, 2, 2) = 4",
                "chains(1, 2, 3) = 17; chains(1, 1, 0) = 4",
                // a chain whose links come against the numbers
                "anew", "write(8, 0, 1, 0) = 0; write(2, 0, 1, 0) = 1; write(6, 0, 1, 0) = 2; write(0, 0, 1, 0) = 3",
                "write(4, 0, 1, 0) = 4; chains(1, 2, 0) = 1; chains(1, 2, 1) = 5; chains(1, 2, 3) = 31; chains(1, 1, 0) = 5");
        anew();
        for (int p = 0; p < 24; p++) same("write", ask("write", p * 7 % 24 * 2, 0, 1, 0), p);
        due("chains(1, 2, 0) = 1; chains(1, 2, 1) = 24; chains(1, 2, 3) = 16777215; chains(1, 1, 0) = 24");
        // from 0 to 23, from 23 to 22 and so on, the longest way there is
        anew();
        for (int p = 0; p < 24; p++) same("write", ask("write", (24 - p) % 24 * 2, 0, 1, 0), p);
        due("chains(1, 2, 0) = 1; chains(1, 2, 1) = 24; chains(1, 2, 2) = 24; chains(1, 2, 3) = 16777215; chains(1, 1, 1) = 1");
        holds("20", "NONE: no such ones.",
                "chains(0, 1, 0) = -1; chains(16, 1, 0) = -1; chains(MIN, 1, 0) = -1; chains(MAX, 1, 0) = -1",
                "chains(1, -1, 0) = -1; chains(1, 301, 0) = -1; chains(1, MIN, 0) = -1; chains(1, MAX, 0) = -1",
                "chains(1, 1, -1) = -1; chains(1, 1, 4) = -1; chains(1, 1, MIN) = -1; chains(1, 1, MAX) = -1",
                "chains(1, 0, 0) = 0; chains(15, 300, 3) = 0");
    }

    /** Promise 22. */
    private void togetherAsked() {
        holds("22", "Whether two POLICIES can lie in one disc of a RADIUS 1 .. 300 (1, 0);",
                "write(0, 0, 1, 0) = 0; write(2, 0, 1, 3) = 1; together(0, 1, 1) = 1; together(1, 0, 1) = 1",
                "move(1, 2, 1) = 1; together(0, 1, 1) = 0; together(0, 1, 2) = 1; move(1, 0, 0) = 5; together(0, 1, 1) = 1",
                "move(1, 299, 299) = 178802; together(0, 1, 300) = 1; together(0, 1, 212) = 1; together(0, 1, 211) = 0",
                "together(1, 0, 1) = 0; move(1, 6, 8) = 170530; together(0, 1, 5) = 1; together(0, 1, 4) = 0");
        holds("22", "NONE: no such ones, alike.",
                "together(0, 1, 1) = -1; write(0, 0, 1, 0) = 0; together(0, 0, 1) = -1; together(0, 1, 1) = -1",
                "together(1, 0, 1) = -1; write(0, 0, 1, 0) = 1; together(0, 1, 1) = 1; together(1, 1, 1) = -1",
                "together(0, 0, 300) = -1; together(0, 1, 0) = -1; together(0, 1, 301) = -1",
                "together(0, 1, -1) = -1; together(0, 1, MIN) = -1; together(0, 1, MAX) = -1; together(-1, 0, 1) = -1",
                "together(0, -1, 1) = -1; together(24, 0, 1) = -1; together(0, 24, 1) = -1; together(0, 32, 1) = -1",
                "together(MIN, MAX, 1) = -1; lapse(1) = 1; together(0, 1, 1) = -1; together(1, 0, 1) = -1");
    }

    /** Promise 23. */
    private void heaviestAsked() {
        holds("23", "SUMS of the HEAVIEST of POLICIES of some PERILS 1 .. 15 by a RADIUS 1 .. 300;",
                "heaviest(1, 1) = 0; heaviest(15, 300) = 0; write(0, 0, 1, 0) = 0; write(2, 0, 2, 3) = 1",
                "write(299, 299, 4, 1) = 2; heaviest(1, 1) = 1; heaviest(8, 1) = 2; heaviest(9, 1) = 3; heaviest(15, 1) = 4",
                "heaviest(15, 300) = 7",
                "heaviest(9, 300) = 3; heaviest(4, 300) = 0; heaviest(2, 1) = 4; heaviest(15, 211) = 6; heaviest(15, 212) = 7");
        holds("23", "NONE: no such ones.",
                "heaviest(0, 1) = -1; heaviest(16, 1) = -1; heaviest(MIN, 1) = -1; heaviest(MAX, 1) = -1; heaviest(1, 0) = -1",
                "heaviest(1, 301) = -1; heaviest(1, MIN) = -1; heaviest(1, MAX) = -1; heaviest(-1, 1) = -1",
                "heaviest(1, -1) = -1");
    }

    /** Promise 24. */
    private void heaviestAsBits() {
        holds("24", "The POLICIES of it as bits;",
                "heaviestSet(1, 1) = 0; heaviestSet(15, 300) = 0; write(0, 0, 1, 0) = 0; write(2, 0, 2, 3) = 1",
                "write(299, 299, 4, 1) = 2; heaviestSet(1, 1) = 1; heaviestSet(8, 1) = 2; heaviestSet(9, 1) = 3",
                "heaviestSet(15, 1) = 4; heaviestSet(15, 300) = 7",
                "change(2, 3) = 4; heaviestSet(15, 1) = 3; change(1, 1) = 2; heaviestSet(15, 1) = 4; heaviestSet(15, 211) = 6");
        anew();
        fill(24);
        due("heaviestSet(15, 300) = 16777215; heaviestSet(8, 1) = 8388608");
        holds("24", "NONE: no such ones.",
                "heaviestSet(0, 1) = -1; heaviestSet(16, 1) = -1; heaviestSet(MIN, 1) = -1; heaviestSet(MAX, 1) = -1",
                "heaviestSet(1, 0) = -1; heaviestSet(1, 301) = -1; heaviestSet(1, MIN) = -1; heaviestSet(1, MAX) = -1");
    }

    /** Promise 25. */
    private void twoDiscs() {
        holds("25", "Two discs of a RADIUS 1 .. 300, of POLICIES of some PERILS 1 .. 15: the most SUMS of POLICIES that lie in one of them"
                + " at least (what 0), these POLICIES as bits, of like ones the least such number (1);",
                "write(0, 0, 5, 0) = 0; two(1, 1, 0) = 5; two(1, 1, 1) = 1; two(2, 1, 0) = 0; two(2, 1, 1) = 0",
                "write(50, 0, 5, 0) = 1; two(1, 1, 0) = 10; two(1, 1, 1) = 3; write(100, 0, 5, 0) = 2; two(1, 1, 0) = 10",
                "two(1, 1, 1) = 3; write(0, 0, 1, 2) = 3; two(4, 1, 0) = 1; two(4, 1, 1) = 8; lapse(3) = 1",
                "change(0, 4) = 5; two(1, 1, 1) = 6; write(102, 0, 1, 0) = 3; two(1, 1, 0) = 11; two(1, 1, 1) = 14",
                "move(3, 103, 0) = 1; two(1, 1, 1) = 6; two(1, 25, 0) = 15; two(1, 25, 1) = 15; two(1, 300, 1) = 15",
                // the heaviest disc is of neither: 1 2 3 against 0 1 and 2 3 4 together
                "anew", "write(0, 0, 4, 0) = 0; write(10, 0, 5, 0) = 1; write(20, 0, 5, 0) = 2; write(30, 0, 4, 0) = 3",
                "two(1, 5, 0) = 18; two(1, 5, 1) = 15; heaviestSet(1, 5) = 6; two(1, 4, 0) = 10; two(1, 4, 1) = 6",
                // one disc of three, found late, and the one that is left; what was asked before, of more, doesn't come in
                "anew", "write(2, 3, 6, 0) = 0; write(8, 0, 2, 0) = 1; write(2, 1, 6, 0) = 2; write(2, 7, 8, 0) = 3",
                "two(1, 3, 0) = 22; two(1, 3, 1) = 15; cover(1, 3) = 2",
                "anew", "write(0, 0, 1, 0) = 0; write(50, 0, 2, 1) = 1; write(100, 0, 4, 2) = 2; two(7, 1, 0) = 6; two(7, 1, 1) = 6",
                "two(1, 1, 0) = 1; two(1, 1, 1) = 1; two(3, 1, 1) = 3; two(2, 1, 1) = 2",
                // both have one in common, which counts once; perils that aren't asked of count nothing
                "anew", "write(0, 0, 4, 0) = 0; write(10, 0, 5, 0) = 1; write(20, 0, 6, 0) = 2; two(1, 5, 0) = 15; two(1, 5, 1) = 7",
                "write(5, 0, 99, 3) = 3; two(1, 5, 0) = 15; two(9, 5, 0) = 114; two(9, 5, 1) = 15");
        holds("25", "0 without POLICIES;",
                "two(1, 1, 0) = 0; two(15, 300, 1) = 0; write(0, 0, 1, 0) = 0; two(14, 300, 0) = 0; two(14, 300, 1) = 0");
        holds("25", "NONE: no such ones.",
                "two(0, 1, 0) = -1; two(16, 1, 0) = -1; two(MIN, 1, 0) = -1; two(MAX, 1, 0) = -1; two(1, 0, 0) = -1",
                "two(1, 301, 0) = -1; two(1, MIN, 0) = -1; two(1, MAX, 0) = -1; two(1, 1, -1) = -1; two(1, 1, 2) = -1",
                "two(1, 1, MIN) = -1; two(1, 1, MAX) = -1");
    }

    /** Promise 26. */
    private void coverAsked() {
        holds("26", "The fewest discs 0 .. 3 of a RADIUS 1 .. 300 in which together all POLICIES of some PERILS 1 .. 15 lie;",
                "cover(1, 1) = 0; cover(15, 300) = 0; write(0, 0, 1, 0) = 0; cover(1, 1) = 1; cover(15, 300) = 1",
                "cover(14, 300) = 0; write(0, 10, 1, 0) = 1; cover(1, 5) = 1; cover(1, 4) = 2; write(0, 20, 1, 0) = 2",
                "cover(1, 10) = 1; cover(1, 9) = 2; cover(1, 5) = 2; cover(1, 4) = 3",
                // neither of the two is the heaviest one
                "anew", "write(0, 0, 1, 0) = 0; write(10, 0, 9, 0) = 1; write(20, 0, 9, 0) = 2; write(30, 0, 1, 0) = 3",
                "cover(1, 5) = 2; cover(1, 4) = -2; write(40, 0, 1, 1) = 4; cover(1, 5) = 2; cover(3, 5) = 3",
                "cover(3, 15) = 2; cover(3, 20) = 1; cover(3, 19) = 2",
                // the heaviest one in the midst goes wrong: three of two
                "anew", "write(0, 0, 1, 0) = 0; write(10, 0, 9, 0) = 1; write(20, 0, 9, 0) = 2; write(30, 0, 1, 0) = 3",
                "write(40, 0, 1, 0) = 4; write(50, 0, 1, 0) = 5; cover(1, 5) = 3; move(5, 51, 0) = 1; cover(1, 5) = -2",
                "cover(1, 6) = 3",
                // 0, 2 and 3 in one, 1 and 4 each alone
                "anew", "write(8, 0, 1, 0) = 0; write(5, 6, 1, 0) = 1; write(7, 0, 1, 0) = 2; write(10, 1, 1, 0) = 3",
                "write(2, 1, 1, 0) = 4; cover(1, 2) = 3; cover(1, 1) = -2");
        // 7 goes with another one, then parts from it, and all ahead of these lapse: what went together before doesn't any more
        String seven = "write(0, 0, 1, 0) = 0; write(30, 0, 1, 0) = 1; write(60, 0, 1, 0) = 2; write(90, 0, 1, 0) = 3; "
                + "write(120, 0, 1, 0) = 4; write(150, 0, 1, 0) = 5; write(180, 0, 1, 0) = 6; ";
        holds("26", "The fewest discs 0 .. 3 of a RADIUS 1 .. 300 in which together all POLICIES of some PERILS 1 .. 15 lie;",
                seven + "write(120, 2, 1, 0) = 7; cover(1, 1) = -2; lapse(0) = 1; lapse(1) = 1; lapse(2) = 1; lapse(3) = 1",
                "move(7, 299, 0) = 32045; cover(1, 1) = -2",
                "anew", seven + "write(150, 2, 1, 0) = 7; lapse(3) = 1; cover(1, 1) = -2; lapse(0) = 1; lapse(1) = 1; lapse(2) = 1",
                "move(7, 299, 0) = 22205; cover(1, 1) = -2",
                "anew", seven + "write(180, 2, 1, 0) = 7; lapse(2) = 1; lapse(3) = 1; cover(1, 1) = -2; lapse(0) = 1; lapse(1) = 1",
                "move(7, 299, 0) = 14165; cover(1, 1) = -2",
                "anew", seven + "write(150, 2, 1, 0) = 7; lapse(3) = 1; lapse(4) = 1; cover(1, 1) = -2; lapse(0) = 1; lapse(1) = 1",
                "lapse(2) = 1; move(7, 299, 0) = 22205; cover(1, 1) = 3");
        holds("26", "-2: not in three;",
                "write(0, 0, 1, 0) = 0; write(100, 0, 1, 0) = 1; write(200, 0, 1, 0) = 2; cover(1, 1) = 3",
                "write(299, 0, 1, 1) = 3; cover(1, 1) = 3; cover(3, 1) = -2; cover(3, 49) = -2; cover(3, 50) = 2",
                "write(0, 0, 1, 0) = 4; cover(1, 1) = 3");
        holds("26", "NONE: no such ones.",
                "cover(0, 1) = -1; cover(16, 1) = -1; cover(MIN, 1) = -1; cover(MAX, 1) = -1; cover(1, 0) = -1",
                "cover(1, 301) = -1; cover(1, MIN) = -1; cover(1, MAX) = -1");
    }

    /** Promise 27. */
    private void squareAsked() {
        holds("27", "The most SUMS of POLICIES of some PERILS 1 .. 15 in a square of a side 0 .. 299 (its sides go as X and Y do, its rim"
                + " belongs to it) (what 0), of these squares (their corners with the least X, Y at X, Y of these POLICIES, each for itself)"
                + " the least X, of these the least Y (1: X, 2: Y; -2: there are no POLICIES);",
                "square(1, 0, 0) = 0; square(15, 299, 1) = -2; square(15, 299, 2) = -2; write(40, 30, 2, 0) = 0",
                "square(1, 0, 0) = 2; square(1, 0, 1) = 40; square(1, 0, 2) = 30; square(14, 299, 0) = 0",
                "square(14, 299, 1) = -2; square(14, 0, 2) = -2",
                // the rim, at both sides; a corner at the X of one, the Y of another one
                "write(50, 20, 3, 0) = 1; square(1, 10, 0) = 5; square(1, 10, 1) = 40; square(1, 10, 2) = 20",
                "square(1, 9, 0) = 3; square(1, 9, 1) = 50; square(1, 9, 2) = 20; move(1, 50, 19) = 1; square(1, 10, 0) = 3",
                "square(1, 11, 0) = 5",
                "move(1, 51, 20) = 2; square(1, 10, 0) = 3; square(1, 11, 1) = 40; square(1, 11, 2) = 20",
                // of like SUMS the least X, of these the least Y, whatever the numbers
                "change(1, 2) = 3; square(1, 0, 1) = 40; square(1, 0, 2) = 30; write(40, 10, 2, 0) = 2; square(1, 0, 1) = 40",
                "square(1, 0, 2) = 10; write(10, 90, 2, 0) = 3; square(1, 0, 1) = 10; square(1, 0, 2) = 90",
                "anew", "write(40, 10, 2, 0) = 0; write(40, 30, 2, 0) = 1; write(60, 50, 2, 0) = 2; square(1, 0, 1) = 40",
                "square(1, 0, 2) = 10; square(1, 5, 1) = 40; square(1, 5, 2) = 10",
                // three of which two have room, in X and in Y
                "anew", "write(5, 5, 1, 0) = 0; write(6, 5, 1, 0) = 1; write(7, 5, 1, 0) = 2; square(1, 1, 0) = 2",
                "square(1, 2, 0) = 3; write(5, 6, 1, 1) = 3; write(5, 7, 1, 1) = 4; write(5, 5, 1, 1) = 5",
                "square(2, 1, 0) = 2; square(2, 2, 0) = 3",
                "anew", "write(40, 10, 2, 0) = 0; write(10, 90, 2, 0) = 1; write(90, 5, 1, 0) = 2; write(95, 5, 1, 0) = 3",
                // at an X where none of these starts it would be less; X, Y of other perils lend no corner
                "write(39, 9, 1, 1) = 4; square(1, 0, 0) = 2; square(1, 1, 1) = 10; square(3, 1, 0) = 3; square(3, 1, 1) = 39",
                "square(3, 1, 2) = 9; square(2, 299, 1) = 39; square(2, 0, 2) = 9",
                // the whole, and all but its end
                "anew", "write(0, 299, 1, 0) = 0; write(299, 0, 2, 0) = 1; square(1, 299, 0) = 3; square(1, 299, 1) = 0",
                "square(1, 299, 2) = 0; square(1, 298, 0) = 2; square(1, 298, 1) = 299; square(1, 298, 2) = 0",
                // a corner whose square has the most SUMS, though no policy lies in it at the corner
                "change(0, 2) = 1; square(1, 298, 1) = 0; square(1, 298, 2) = 299; square(1, 0, 2) = 299",
                "write(0, 298, 1, 0) = 2; square(1, 1, 0) = 3; square(1, 1, 2) = 298; square(1, 0, 0) = 2",
                "square(1, 0, 1) = 0; square(1, 0, 2) = 299");
        holds("27", "NONE: no such ones.",
                "square(0, 1, 0) = -1; square(16, 1, 0) = -1; square(MIN, 1, 0) = -1; square(MAX, 1, 0) = -1",
                "square(1, -1, 0) = -1; square(1, 300, 0) = -1; square(1, MIN, 0) = -1; square(1, MAX, 0) = -1",
                "square(1, 1, -1) = -1; square(1, 1, 3) = -1; square(1, 1, MIN) = -1; square(1, 1, MAX) = -1");
    }

    /** Promise 28. */
    private void radiusAsked() {
        holds("28", "The least RADIUS 1 .. 300 by which heaviest() of some PERILS is n 1 or more;",
                "write(0, 0, 5, 0) = 0; radiusFor(1, 1) = 1; radiusFor(1, 5) = 1; write(2, 0, 5, 0) = 1; radiusFor(1, 6) = 1",
                "radiusFor(1, 10) = 1; move(1, 3, 0) = 1; radiusFor(1, 6) = 2; radiusFor(1, 5) = 1; move(1, 6, 8) = 73",
                "radiusFor(1, 10) = 5",
                "move(1, 7, 8) = 1; radiusFor(1, 10) = 6; write(299, 299, 7, 3) = 2; radiusFor(9, 17) = 212",
                "radiusFor(9, 12) = 207; radiusFor(9, 11) = 207; radiusFor(9, 10) = 6; radiusFor(9, 7) = 1",
                "radiusFor(1, 9) = 6");
        holds("28", "-2: by none;",
                "radiusFor(1, 1) = -2; radiusFor(15, MAX) = -2; write(0, 0, 5, 0) = 0; radiusFor(1, 6) = -2",
                "radiusFor(1, MAX) = -2; radiusFor(2, 1) = -2; write(9, 0, 1, 1) = 1; radiusFor(3, 6) = 5",
                "radiusFor(3, 7) = -2; radiusFor(1, 6) = -2");
        holds("28", "NONE: no such ones.",
                "radiusFor(0, 1) = -1; radiusFor(16, 1) = -1; radiusFor(MIN, 1) = -1; radiusFor(MAX, 1) = -1",
                "radiusFor(1, 0) = -1; radiusFor(1, -1) = -1; radiusFor(1, MIN) = -1; write(0, 0, 5, 0) = 0",
                "radiusFor(1, 0) = -1; radiusFor(1, MIN) = -1");
    }

    /** Promise 35. */
    private void nearestAsked() {
        holds("35", "The POLICY that is nearest to another one, by squared distance, the first;",
                "write(0, 0, 1, 0) = 0; write(7, 0, 1, 1) = 1; nearest(0) = 1; nearest(1) = 0; write(5, 5, 1, 2) = 2",
                "nearest(0) = 1; nearest(2) = 1; write(6, 3, 1, 3) = 3; nearest(0) = 3; nearest(1) = 3; nearest(2) = 3",
                "nearest(3) = 2",
                // of like ones the first; one at the same place; farther by X and Y, but not by the way
                "anew", "write(9, 9, 1, 0) = 0; write(9, 14, 1, 0) = 1; write(14, 9, 1, 0) = 2; write(12, 13, 1, 0) = 3",
                "nearest(0) = 1; nearest(3) = 1; lapse(1) = 1; nearest(0) = 2; move(3, 12, 12) = 1; nearest(0) = 3",
                "move(2, 9, 9) = 25; nearest(0) = 2; nearest(2) = 0; nearest(3) = 0",
                "anew", "write(0, 0, 1, 0) = 0; write(299, 299, 1, 3) = 1; nearest(0) = 1; nearest(1) = 0");
        holds("35", "-2: there is none;",
                "write(0, 0, 1, 0) = 0; nearest(0) = -2; write(0, 0, 1, 0) = 1; nearest(0) = 1; nearest(1) = 0; lapse(0) = 1",
                "nearest(1) = -2");
        holds("35", "NONE: no such POLICY.",
                "nearest(0) = -1; write(0, 0, 1, 0) = 0; nearest(1) = -1; nearest(-1) = -1; nearest(24) = -1",
                "nearest(32) = -1; nearest(MIN) = -1; nearest(MAX) = -1; lapse(0) = 1; nearest(0) = -1");
    }

    /** Promise 36. */
    private void couplesAsked() {
        holds("36", "How many couples of POLICIES are no farther than a RADIUS 0 .. 300 from one another;",
                "couples(0) = 0; couples(300) = 0; write(0, 0, 1, 0) = 0; couples(300) = 0; write(0, 0, 1, 3) = 1",
                "couples(0) = 1; write(3, 4, 1, 1) = 2; couples(5) = 3; couples(4) = 1; couples(0) = 1; move(2, 3, 5) = 1",
                "couples(5) = 1; couples(6) = 3; lapse(1) = 1; couples(6) = 1",
                "move(0, 0, 5) = 25; couples(3) = 1; couples(2) = 0; write(299, 5, 1, 0) = 1; couples(299) = 3",
                "couples(298) = 2; couples(295) = 1; couples(296) = 2; move(1, 299, 299) = 86436; couples(300) = 1");
        anew();
        for (int p = 0; p < 24; p++) same("write", ask("write", 4, 4, 1, 0), p);
        due("couples(0) = 276; couples(300) = 276");
        holds("36", "NONE: no such one.",
                "couples(-1) = -1; couples(301) = -1; couples(MIN) = -1; couples(MAX) = -1; write(0, 0, 1, 0) = 0",
                "write(0, 0, 1, 0) = 1; couples(-1) = -1; couples(301) = -1; couples(0) = 1");
    }
}
