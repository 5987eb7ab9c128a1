/** The edges of promises 29 to 34 and 37: one policy more, one less, one that moves. */
final class EdgesOfOneMore extends Edges {
    @Override
    void all() {
        ifOneWereWritten();
        aboutAsked();
        mostAsked();
        placesAsked();
        reliefAsked();
        fewestAsked();
        alongAsked();
    }

    /** Promise 29. */
    private void ifOneWereWritten() {
        holds("29", "WORST's SUMS of a TREATY, were a POLICY written (X, Y, SUM, PERIL);",
                "treaty(1, 5, 9) = 0; ifWritten(0, 0, 0, 1, 0) = 1; ifWritten(0, 299, 299, 99999, 0) = 99999",
                "ifWritten(0, 0, 0, 1, 1) = 0; ifWritten(0, 0, 0, 99999, 3) = 0; write(0, 0, 10, 0) = 0",
                "write(6, 8, 12, 0) = 1",
                // together with none, one, both; less than WORST; a peril that is none of the treaty's
                "ifWritten(0, 0, 0, 1, 0) = 23; ifWritten(0, 3, 4, 1, 0) = 23; ifWritten(0, 10, 5, 9, 0) = 22",
                "ifWritten(0, 12, 16, 10, 0) = 22; ifWritten(0, 12, 16, 11, 0) = 23; ifWritten(0, 12, 17, 22, 0) = 22",
                "ifWritten(0, 12, 17, 23, 0) = 23; ifWritten(0, 3, 4, 99, 1) = 22",
                "ifWritten(0, 3, 4, 99999, 0) = 100021; count(0) = 2; worst(0, 0) = 22");
        anew();
        due("treaty(1, 1, 99) = 0");
        for (int p = 0; p < 24; p++) same("write", ask("write", 9, 9, 1, 0), p);
        due("ifWritten(0, 9, 9, 5, 0) = 29; ifWritten(0, 9, 12, 5, 0) = 24; ifWritten(0, 9, 12, 25, 0) = 25");
        due("ifWritten(0, 9, 9, 5, 1) = 24");
        holds("29", "NONE: no such ones.",
                "ifWritten(0, 0, 0, 1, 0) = -1; treaty(1, 5, 9) = 0; ifWritten(1, 0, 0, 1, 0) = -1",
                "ifWritten(-1, 0, 0, 1, 0) = -1; ifWritten(0, -1, 0, 1, 0) = -1; ifWritten(0, 300, 0, 1, 0) = -1",
                "ifWritten(0, 0, -1, 1, 0) = -1; ifWritten(0, 0, 300, 1, 0) = -1",
                "ifWritten(0, 0, 0, 0, 0) = -1; ifWritten(0, 0, 0, 100000, 0) = -1; ifWritten(0, 0, 0, 1, -1) = -1",
                "ifWritten(0, 0, 0, 1, 4) = -1; ifWritten(0, 0, 0, 0, 3) = -1; ifWritten(0, MIN, 0, 1, 0) = -1",
                "ifWritten(0, 0, MAX, 1, 0) = -1; ifWritten(0, 0, 0, MIN, 0) = -1; ifWritten(0, 0, 0, 1, MAX) = -1");
    }

    /** Promise 30. */
    private void aboutAsked() {
        holds("30", "The greatest SUMS of POLICIES of a TREATY that lie with the place X, Y in a disc of RADIUS;",
                "treaty(1, 5, 9) = 0; about(0, 0, 0) = 0; about(0, 299, 299) = 0; write(10, 10, 3, 0) = 0",
                "about(0, 10, 10) = 3; about(0, 20, 10) = 3; about(0, 21, 10) = 0; about(0, 16, 18) = 3; about(0, 16, 19) = 0",
                "about(0, 10, 0) = 3",
                "write(20, 10, 4, 0) = 1; about(0, 15, 15) = 7; about(0, 15, 16) = 4; about(0, 15, 5) = 7",
                "about(0, 15, 4) = 4; about(0, 10, 10) = 7; about(0, 14, 13) = 7; about(0, 9, 10) = 3; about(0, 21, 10) = 4",
                // one of another peril is not of the treaty's; three of which the place goes with any two
                "write(15, 10, 50, 1) = 2; about(0, 15, 10) = 7; lapse(2) = 50; write(15, 18, 5, 0) = 2; about(0, 15, 13) = 9",
                "about(0, 15, 19) = 5; about(0, 18, 14) = 9; about(0, 12, 14) = 9; about(0, 11, 14) = 8; treaty(1, 6, 9) = 1",
                "about(1, 15, 13) = 12",
                // the place goes with two of three that go together themselves, on each side of the way from one to the other
                "anew", "treaty(1, 3, 9) = 0; write(0, 1, 2, 0) = 0; write(6, 1, 2, 0) = 1; write(3, 1, 2, 0) = 2; about(0, 1, 4) = 4",
                "anew", "treaty(1, 6, 9) = 0; write(14, 6, 2, 0) = 0; write(16, 4, 2, 0) = 1; write(11, 11, 1, 0) = 2",
                "about(0, 4, 4) = 4; worst(0, 0) = 5",
                "anew", "treaty(1, 6, 9) = 0; write(6, 7, 2, 0) = 0; write(11, 9, 2, 0) = 1; write(1, 9, 1, 0) = 2",
                "about(0, 8, 0) = 4; worst(0, 0) = 5",
                "anew", "treaty(1, 4, 9) = 0; write(3, 3, 1, 0) = 0; write(2, 6, 2, 0) = 1; write(0, 8, 2, 0) = 2",
                "about(0, 8, 8) = 4; worst(0, 0) = 5",
                "anew", "treaty(1, 4, 9) = 0; write(5, 6, 1, 0) = 0; write(2, 1, 3, 0) = 1; write(3, 8, 1, 0) = 2",
                "about(0, 1, 4) = 5; worst(0, 0) = 5");
        anew();
        // of 24 some with numbers far from one another
        int[][] those = {{1, 1, 6, 1}, {4, 10, 7, 9}, {7, 3, 0, 4}, {8, 10, 6, 4}, {17, 5, 4, 5}, {18, 2, 2, 8}, {21, 3, 8, 6},
            {22, 3, 4, 2}, {23, 1, 4, 3}};
        for (int p = 0; p < 24; p++) same("write", ask("write", 299, 299, 9, 1), p);
        for (int[] it : those) ask("lapse", it[0]);
        for (int[] it : those) same("write", ask("write", it[1], it[2], it[3], 0), it[0]);
        due("treaty(1, 5, 9) = 0; about(0, 1, 7) = 38; about(0, 299, 299) = 0; ifWritten(0, 1, 7, 4, 0) = 42");
        holds("30", "NONE: no such ones.",
                "about(0, 0, 0) = -1; treaty(1, 5, 9) = 0; about(1, 0, 0) = -1; about(-1, 0, 0) = -1; about(6, 0, 0) = -1",
                "about(0, -1, 0) = -1; about(0, 300, 0) = -1; about(0, 0, -1) = -1; about(0, 0, 300) = -1",
                "about(0, MIN, 0) = -1; about(0, 0, MAX) = -1; about(MAX, 0, 0) = -1");
    }

    /** Promise 31. */
    private void mostAsked() {
        holds("31", "The greatest SUM 0 .. 99999 of a POLICY of a PERIL at X, Y by which no TREATY of that PERIL is PASSED (99999 without such;"
                + " 0: none is, or one is already);",
                "most(0, 0, 0) = 99999; most(299, 299, 3) = 99999; treaty(1, 5, 25) = 0; most(0, 0, 0) = 25",
                "most(0, 0, 1) = 99999; write(0, 0, 10, 0) = 0; most(0, 0, 0) = 15; most(10, 0, 0) = 15; most(11, 0, 0) = 25",
                // the least of several treaties; a limit that leaves all, and one that leaves nothing
                "treaty(3, 1, 12) = 1; most(0, 0, 0) = 2; most(11, 0, 0) = 12; most(0, 0, 1) = 2; most(0, 0, 2) = 99999",
                "limit(1, 10) = 12; most(0, 0, 0) = 0; most(11, 0, 0) = 10",
                "limit(1, 9) = 10; most(299, 299, 0) = 0; most(299, 299, 1) = 0; most(299, 299, 2) = 99999",
                "limit(1, 9999999) = 9; limit(0, 100008) = 25; most(0, 0, 0) = 99998; limit(0, 100009) = 100008",
                "most(0, 0, 0) = 99999; limit(0, 100010) = 100009; most(0, 0, 0) = 99999");
        anew();
        for (int p = 0; p < 24; p++) same("write", ask("write", 9, 9, 1, 0), p);
        due("treaty(1, 1, 99) = 0; most(9, 9, 0) = 75; most(9, 12, 0) = 99; most(9, 9, 1) = 99999");
        holds("31", "NONE: no such ones.",
                "most(-1, 0, 0) = -1; most(300, 0, 0) = -1; most(0, -1, 0) = -1; most(0, 300, 0) = -1; most(0, 0, -1) = -1",
                "most(0, 0, 4) = -1; most(MIN, 0, 0) = -1; most(0, MAX, 0) = -1; most(0, 0, MIN) = -1; most(0, 0, MAX) = -1",
                "most(0, 0, 32) = -1");
    }

    /** Promise 32. */
    private void placesAsked() {
        holds("32", "At how many places X, Y of 0, 30, .. 270 each a POLICY of a SUM, a PERIL would leave no TREATY of that PERIL PASSED;",
                "places(1, 0) = 100; places(99999, 3) = 100; treaty(1, 1, 10) = 0; places(10, 0) = 100; places(11, 0) = 0",
                "places(11, 1) = 100; places(99999, 0) = 0",
                // at the first and at the last place, and beyond the last one
                "write(0, 0, 10, 0) = 0; places(1, 0) = 99; write(270, 270, 10, 0) = 1; places(1, 0) = 98",
                "write(299, 299, 10, 0) = 2; places(1, 0) = 98; write(272, 0, 10, 0) = 3; places(1, 0) = 97",
                "move(3, 273, 0) = 1; places(1, 0) = 98",
                // between two rows; X and Y each for itself
                "move(3, 30, 60) = 62649; places(1, 0) = 97; move(3, 30, 61) = 1; places(1, 0) = 97; move(3, 30, 62) = 1",
                "places(1, 0) = 97; move(3, 30, 63) = 1; places(1, 0) = 98",
                // by one treaty here, by another one there; none, if one is PASSED already
                "treaty(3, 1, 5) = 1; places(1, 0) = 0; places(1, 1) = 0; places(1, 2) = 100; limit(1, 10) = 5",
                "places(1, 1) = 98; limit(0, 9) = 10; places(1, 0) = 0; places(1, 1) = 98");
        holds("32", "NONE: no such ones.",
                "places(0, 0) = -1; places(100000, 0) = -1; places(-1, 0) = -1; places(1, -1) = -1; places(1, 4) = -1",
                "places(MIN, 0) = -1; places(MAX, 0) = -1; places(1, MIN) = -1; places(1, MAX) = -1");
    }

    /** Promise 33. */
    private void reliefAsked() {
        holds("33", "The POLICY of WORST by whose lapse WORST of the TREATY becomes least, the first (what 0), how much it is then (1);",
                "treaty(1, 5, 9) = 0; write(0, 0, 7, 0) = 0; relief(0, 0) = 0; relief(0, 1) = 0; write(0, 0, 9, 0) = 1",
                "relief(0, 0) = 1; relief(0, 1) = 7; change(1, 7) = 9; relief(0, 0) = 0; relief(0, 1) = 7",
                // another SET is WORST then: the first of those that come to the same
                "write(100, 0, 8, 0) = 2; relief(0, 0) = 0; relief(0, 1) = 8; change(1, 8) = 7; relief(0, 0) = 0",
                "relief(0, 1) = 8; change(2, 7) = 8; relief(0, 0) = 1; relief(0, 1) = 7; change(2, 14) = 7; relief(0, 0) = 0",
                "relief(0, 1) = 14",
                // one that is not of WORST is none, nor one of another peril
                "anew", "treaty(1, 5, 9) = 0; write(0, 0, 99, 1) = 0; write(50, 0, 9, 0) = 1; write(0, 0, 10, 0) = 2",
                "relief(0, 0) = 2; relief(0, 1) = 9; count(0) = 3; worst(0, 0) = 10");
        holds("33", "-2: there is none;",
                "treaty(1, 5, 9) = 0; relief(0, 0) = -2; relief(0, 1) = -2; write(0, 0, 1, 1) = 0; relief(0, 0) = -2",
                "relief(0, 1) = -2");
        holds("33", "NONE: no such ones.",
                "relief(0, 0) = -1; treaty(1, 5, 9) = 0; relief(0, -1) = -1; relief(0, 2) = -1; write(0, 0, 1, 0) = 0",
                "relief(0, -1) = -1; relief(0, 2) = -1; relief(0, MIN) = -1; relief(0, MAX) = -1; relief(1, 0) = -1",
                "relief(-1, 0) = -1; relief(6, 1) = -1");
    }

    /** Promise 34. */
    private void fewestAsked() {
        holds("34", "The fewest POLICIES 0 .. 2 by whose lapse a TREATY isn't PASSED;",
                "treaty(1, 5, 10) = 0; fewest(0) = 0; write(0, 0, 10, 0) = 0; fewest(0) = 0; write(0, 0, 1, 0) = 1",
                "fewest(0) = 1; write(0, 0, 9, 0) = 2; fewest(0) = 1; change(2, 10) = 9; fewest(0) = 2; change(1, 10) = 1",
                "fewest(0) = 2; write(1, 1, 1, 0) = 3; fewest(0) = -2",
                // not of WORST alone: one there and one elsewhere; one that two discs have in common
                "anew", "treaty(1, 5, 10) = 0; write(0, 0, 12, 0) = 0; write(99, 0, 11, 0) = 1; fewest(0) = 2; change(0, 10) = 12",
                "fewest(0) = 1; change(1, 10) = 11; fewest(0) = 0; write(200, 0, 11, 1) = 2; fewest(0) = 0",
                "change(0, 11) = 10; change(1, 12) = 10; fewest(0) = 2; limit(0, 11) = 10; fewest(0) = 1",
                "anew", "treaty(1, 5, 10) = 0; write(0, 0, 6, 0) = 0; write(10, 0, 6, 0) = 1; write(20, 0, 6, 0) = 2; fewest(0) = 1",
                "write(30, 0, 6, 0) = 3; fewest(0) = 2; move(3, 10, 0) = 400; fewest(0) = 2; change(3, 5) = 6; fewest(0) = 2",
                "change(3, 4) = 5; fewest(0) = 1");
        holds("34", "-2: not by two;",
                "treaty(1, 5, 1) = 0; write(0, 0, 2, 0) = 0; write(50, 0, 2, 0) = 1; fewest(0) = 2; write(99, 0, 2, 0) = 2",
                "fewest(0) = -2; change(2, 1) = 2; fewest(0) = 2; write(99, 0, 1, 0) = 3; fewest(0) = -2; lapse(1) = 2",
                "fewest(0) = 2");
        holds("34", "NONE: no such TREATY.",
                "fewest(0) = -1; treaty(1, 5, 1) = 0; fewest(1) = -1; fewest(-1) = -1; fewest(6) = -1; fewest(MIN) = -1",
                "fewest(MAX) = -1; fewest(0) = 0");
    }

    /** Promise 37. */
    private void alongAsked() {
        holds("37", "A POLICY moved in n 1 .. 20 steps to X, Y (places as a TRACK's, 0 .. n): the most WORST of the TREATY comes to on the way"
                + " (what 0), the first place at which it is PASSED (1; -2: at none);",
                "treaty(1, 1, 25) = 0; write(0, 0, 10, 0) = 0; write(100, 0, 20, 0) = 1; along(0, 0, 0, 0, 1, 0) = 20",
                "along(0, 0, 0, 0, 1, 1) = -2; along(0, 0, 100, 0, 1, 0) = 30; along(0, 0, 100, 0, 1, 1) = 1",
                "along(0, 0, 100, 0, 20, 1) = 20",
                "along(0, 0, 200, 0, 20, 1) = 10; along(0, 0, 200, 0, 1, 1) = -2; along(0, 0, 200, 0, 1, 0) = 20",
                "along(0, 0, 200, 0, 2, 0) = 30; along(0, 0, 97, 0, 20, 1) = -2; along(0, 0, 98, 0, 20, 1) = 20",
                // it is at one place only
                "along(0, 1, 101, 0, 1, 0) = 20; along(0, 1, 101, 0, 1, 1) = -2; along(0, 1, 100, 0, 20, 0) = 20",
                "along(0, 0, 1, 1, 20, 0) = 20",
                // none behind where it starts, none ahead of where it ends
                "move(0, 100, 0) = 10000; move(1, 0, 0) = 10000; along(0, 0, 200, 0, 1, 0) = 20",
                "along(0, 0, 200, 0, 1, 1) = -2; move(1, 200, 0) = 40000; along(0, 0, 150, 0, 1, 0) = 20",
                "along(0, 0, 150, 0, 1, 1) = -2; along(0, 0, 199, 0, 1, 1) = 1",
                "move(0, 0, 0) = 10000; move(1, 100, 0) = 10000",
                // it is passed where it stands, by it and by others alone; as much as the limit is not passed
                "limit(0, 19) = 25; along(0, 0, 299, 299, 20, 1) = 0; along(0, 1, 299, 299, 20, 1) = 0; limit(0, 20) = 19",
                "along(0, 0, 50, 0, 20, 1) = -2; limit(0, 29) = 20; along(0, 0, 100, 0, 20, 1) = 20; limit(0, 30) = 29",
                "along(0, 0, 100, 0, 20, 1) = -2",
                "limit(0, 25) = 30; move(0, 100, 0) = 10000; along(0, 0, 0, 0, 20, 1) = 0; along(0, 0, 0, 0, 20, 0) = 30",
                "along(0, 1, 0, 0, 20, 1) = 0; move(0, 0, 0) = 10000",
                // one of another peril moves, and WORST stays
                "write(50, 0, 99, 1) = 2; along(0, 2, 100, 0, 20, 0) = 20; along(0, 2, 100, 0, 20, 1) = -2; limit(0, 19) = 25",
                "along(0, 2, 100, 0, 20, 1) = 0; policy(0, 0) = 0; policy(2, 0) = 50",
                // downwards: from 0 to 100 by 3 it comes to 33 and 66, back from 100 to 66 and 33
                "anew", "treaty(1, 1, 25) = 0; write(0, 0, 10, 0) = 0; write(31, 0, 20, 0) = 1; along(0, 0, 100, 0, 3, 1) = 1",
                "move(1, 35, 0) = 16; along(0, 0, 100, 0, 3, 1) = 1; move(1, 36, 0) = 1; along(0, 0, 100, 0, 3, 1) = -2",
                "move(1, 30, 0) = 36; along(0, 0, 100, 0, 3, 1) = -2",
                "move(0, 100, 0) = 10000; move(1, 31, 0) = 1; along(0, 0, 0, 0, 3, 1) = 2; move(1, 35, 0) = 16",
                "along(0, 0, 0, 0, 3, 1) = 2; move(1, 36, 0) = 1; along(0, 0, 0, 0, 3, 1) = -2; move(1, 68, 0) = 1024",
                "along(0, 0, 0, 0, 3, 1) = 1; move(1, 69, 0) = 1; along(0, 0, 0, 0, 3, 1) = -2",
                // Y alike, on its own
                "anew", "treaty(1, 1, 25) = 0; write(0, 100, 10, 0) = 0; write(33, 64, 20, 0) = 1; along(0, 0, 100, 0, 3, 1) = 1",
                "move(1, 33, 68) = 16; along(0, 0, 100, 0, 3, 1) = 1; move(1, 33, 69) = 1; along(0, 0, 100, 0, 3, 1) = -2",
                "move(1, 33, 63) = 36; along(0, 0, 100, 0, 3, 1) = -2");
        holds("37", "NONE: no such ones.",
                "along(0, 0, 0, 0, 1, 0) = -1; treaty(1, 1, 25) = 0; along(0, 0, 0, 0, 1, 0) = -1; write(0, 0, 10, 0) = 0",
                "along(1, 0, 0, 0, 1, 0) = -1; along(-1, 0, 0, 0, 1, 0) = -1; along(0, 1, 0, 0, 1, 0) = -1",
                "along(0, -1, 0, 0, 1, 0) = -1; along(0, 24, 0, 0, 1, 0) = -1; along(0, 32, 0, 0, 1, 0) = -1",
                "along(0, 0, -1, 0, 1, 0) = -1; along(0, 0, 300, 0, 1, 0) = -1; along(0, 0, 0, -1, 1, 0) = -1",
                "along(0, 0, 0, 300, 1, 0) = -1; along(0, 0, 0, 0, 0, 0) = -1; along(0, 0, 0, 0, 21, 0) = -1",
                "along(0, 0, 0, 0, -1, 0) = -1; along(0, 0, 0, 0, MIN, 0) = -1; along(0, 0, 0, 0, MAX, 0) = -1",
                "along(0, 0, 0, 0, 1, -1) = -1; along(0, 0, 0, 0, 1, 2) = -1; along(0, 0, 0, 0, 1, MIN) = -1",
                "along(0, 0, 0, 0, 1, MAX) = -1; along(0, 0, 299, 299, 20, 0) = 10");
    }
}
