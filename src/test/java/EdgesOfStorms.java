/** The edges of promises 38 to 44: storms, discs drawn by chance, what is kept and counted. */
final class EdgesOfStorms extends Edges {
    @Override
    void all() {
        stormTold();
        hitAsked();
        paysAsked();
        drawnAsked();
        alarmsKept();
        actsKept();
        counted();
    }

    /** Promise 38. */
    private void stormTold() {
        holds("38", "A STORM of a RADIUS 0 .. 300 (x, y, to x, to y 0 .. 299, n 1 .. 100) is told: how many POLICIES are HIT;",
                "storm(0, 0, 0, 0, 0, 1) = 0; storm(300, 299, 299, 299, 299, 100) = 0; write(0, 0, 5, 0) = 0",
                "write(299, 299, 7, 3) = 1; write(0, 299, 9, 1) = 2; storm(0, 0, 0, 0, 0, 1) = 1",
                "storm(0, 299, 299, 299, 299, 100) = 1",
                "storm(0, 0, 0, 299, 299, 1) = 2; storm(0, 0, 0, 299, 0, 1) = 1; storm(0, 0, 0, 0, 299, 1) = 2",
                "storm(0, 0, 299, 0, 0, 1) = 2; storm(0, 299, 0, 0, 299, 1) = 1; storm(300, 0, 0, 0, 0, 1) = 2",
                "storm(299, 0, 0, 0, 0, 1) = 2; storm(298, 0, 0, 0, 0, 1) = 1; storm(300, 150, 150, 150, 150, 1) = 3");
        holds("38", "NONE: no such ones.",
                "write(0, 0, 5, 0) = 0; storm(-1, 0, 0, 0, 0, 1) = -1; storm(301, 0, 0, 0, 0, 1) = -1",
                "storm(0, -1, 0, 0, 0, 1) = -1; storm(0, 300, 0, 0, 0, 1) = -1; storm(0, 0, -1, 0, 0, 1) = -1",
                "storm(0, 0, 300, 0, 0, 1) = -1; storm(0, 0, 0, -1, 0, 1) = -1; storm(0, 0, 0, 300, 0, 1) = -1",
                "storm(0, 0, 0, 0, -1, 1) = -1; storm(0, 0, 0, 0, 300, 1) = -1; storm(0, 0, 0, 0, 0, 0) = -1",
                "storm(0, 0, 0, 0, 0, 101) = -1; storm(0, 0, 0, 0, 0, -1) = -1; storm(MIN, 0, 0, 0, 0, 1) = -1",
                "storm(MAX, 0, 0, 0, 0, 1) = -1; storm(0, MIN, 0, 0, 0, 1) = -1; storm(0, 0, 0, 0, 0, MIN) = -1",
                "storm(0, 0, 0, 0, 0, MAX) = -1; hit(0) = -2",
                // the one told before is the one told last still
                "storm(0, 0, 0, 0, 0, 1) = 1; storm(301, 0, 0, 0, 0, 1) = -1; storm(300, 5, 5, 5, 5, 0) = -1",
                "storm(0, 5, 5, 5, 300, 1) = -1; hit(0) = 1; hit(3) = 5");
        holds("38", "(It is asked of below, as it was told.)",
                "write(50, 50, 5, 0) = 0; write(60, 50, 7, 0) = 1; treaty(1, 1, 2) = 0; storm(1, 50, 50, 52, 50, 2) = 1",
                "hit(0) = 1; move(0, 53, 50) = 9; hit(0) = 1; hit(2) = 2; move(0, 54, 50) = 1; hit(0) = 0; hit(2) = 0",
                "pays(0) = 0; move(1, 50, 51) = 101; pays(0) = 5",
                "storm(1, 54, 50, 54, 50, 1) = 1; hit(0) = 1; pays(0) = 3; storm(0, 0, 0, 0, 0, 1) = 0; hit(0) = 0",
                "pays(0) = 0");
    }

    /** Promise 39. */
    private void hitAsked() {
        holds("39", "Of the STORM told last, by POLICIES as they are, what 0 HIT as bits, 1 SUMS of them, 2 at which place (0 .. n) the most SUMS"
                + " lie in its disc, the first, 3 these SUMS;",
                "storm(2, 10, 10, 20, 10, 10) = 0; hit(0) = 0; hit(1) = 0; hit(2) = 0; hit(3) = 0; write(10, 10, 5, 3) = 0",
                "hit(0) = 1; hit(1) = 5; hit(2) = 0; hit(3) = 5; write(20, 10, 5, 0) = 1; hit(0) = 3; hit(1) = 10; hit(2) = 0",
                "hit(3) = 5",
                "change(1, 6) = 5; hit(2) = 8; hit(3) = 6; write(22, 10, 1, 1) = 2; hit(0) = 7; hit(2) = 10; hit(3) = 7",
                "write(23, 10, 9, 1) = 3; hit(0) = 7; hit(1) = 12; lapse(1) = 6; hit(0) = 5; hit(1) = 6; hit(2) = 0",
                "hit(3) = 5; move(0, 23, 12) = 173; hit(0) = 4",
                "anew", "write(7, 0, 1, 0) = 0; storm(0, 0, 0, 10, 0, 10) = 1; hit(0) = 1; hit(1) = 1; hit(2) = 7; hit(3) = 1",
                "move(0, 10, 0) = 9; hit(2) = 10; move(0, 0, 0) = 100; hit(2) = 0",
                "anew", "write(23, 12, 5, 3) = 0; write(9, 9, 1, 0) = 1; write(22, 10, 1, 1) = 2; write(23, 10, 9, 1) = 3",
                "lapse(1) = 1",
                "storm(2, 23, 10, 0, 0, 100) = 3; hit(0) = 13; hit(2) = 0; hit(3) = 15");
        anew();
        fill(24);
        due("storm(300, 0, 0, 0, 0, 1) = 24; hit(0) = 16777215; hit(1) = 300; hit(2) = 0; hit(3) = 300");
        holds("39", "-2: none was told;",
                "hit(0) = -2; hit(1) = -2; hit(2) = -2; hit(3) = -2; storm(301, 0, 0, 0, 0, 1) = -1; hit(0) = -2",
                "storm(0, 0, 0, 0, 0, 1) = 0; hit(0) = 0; hit(3) = 0");
        holds("39", "NONE for another what.",
                "hit(-1) = -1; hit(4) = -1; hit(MIN) = -1; hit(MAX) = -1; storm(0, 0, 0, 0, 0, 1) = 0; hit(-1) = -1",
                "hit(4) = -1; hit(MIN) = -1; hit(MAX) = -1");
    }

    /** Promise 40. */
    private void paysAsked() {
        holds("40", "What a TREATY PAYS of it;",
                "treaty(1, 300, 10) = 0; treaty(14, 1, 1) = 1; storm(1, 0, 0, 9, 0, 1) = 0; pays(0) = 0; pays(1) = 0",
                "write(0, 0, 10, 0) = 0; pays(0) = 0; write(9, 0, 1, 0) = 1; pays(0) = 1; pays(1) = 0; write(5, 0, 50, 0) = 2",
                "pays(0) = 1; write(0, 1, 9, 3) = 3; pays(0) = 1; pays(1) = 8",
                "limit(0, 9) = 10; pays(0) = 2; limit(0, 9999999) = 9; pays(0) = 0; lapse(3) = 9; pays(1) = 0");
        holds("40", "-2: none was told;",
                "treaty(1, 1, 1) = 0; pays(0) = -2; write(0, 0, 5, 0) = 0; pays(0) = -2; storm(0, 300, 0, 0, 0, 1) = -1",
                "pays(0) = -2; storm(0, 0, 0, 0, 0, 1) = 1; pays(0) = 4");
        holds("40", "NONE: no such TREATY.",
                "pays(0) = -1; treaty(1, 1, 1) = 0; pays(1) = -1; pays(-1) = -1; storm(0, 0, 0, 0, 0, 1) = 0; pays(1) = -1",
                "pays(-1) = -1; pays(6) = -1; pays(MIN) = -1; pays(MAX) = -1; pays(0) = 0");
    }

    /** Promise 41. */
    private void drawnAsked() {
        holds("41", "n 1 .. 100 discs of a TREATY's RADIUS are DRAWN from a seed 0 .. 2147483647 (X, then Y of the midst, modulo 300 each), what 0"
                + " the greatest SUMS of its POLICIES in one, 1 the disc (0 on), the first, 2 how many are more than LIMIT, 3 SUMS of all together;",
                // of seed 0 about 0, 168 first, the second about 88, 217, the last two about 258, 104 and 170, 217
                "treaty(1, 5, 8) = 0; drawn(0, 0, 1, 0) = 0; drawn(0, MAX, 100, 1) = 0; drawn(0, 0, 100, 2) = 0",
                "drawn(0, 0, 100, 3) = 0; write(170, 222, 8, 0) = 0; drawn(0, 0, 100, 0) = 8; drawn(0, 0, 100, 1) = 99",
                "drawn(0, 0, 100, 2) = 0; drawn(0, 0, 99, 0) = 0",
                "change(0, 9) = 8; drawn(0, 0, 100, 2) = 1; drawn(0, 0, 100, 3) = 9; move(0, 170, 223) = 1",
                "drawn(0, 0, 100, 3) = 0; move(0, 3, 172) = 30490; drawn(0, 0, 1, 0) = 9; drawn(0, 0, 1, 1) = 0",
                "move(0, 3, 173) = 1; drawn(0, 0, 1, 0) = 0; move(0, 0, 168) = 34",
                // of like ones the first; another peril is not of the treaty's
                "write(88, 217, 9, 0) = 1; drawn(0, 0, 2, 1) = 0; drawn(0, 0, 2, 3) = 18; drawn(0, 0, 2, 2) = 2",
                "change(1, 10) = 9; drawn(0, 0, 2, 1) = 1; drawn(0, 0, 2, 0) = 10; drawn(0, 0, 1, 0) = 9",
                "write(0, 168, 99, 1) = 2; drawn(0, 0, 2, 3) = 19");
        anew();
        for (int p = 0; p < 24; p++) same("write", ask("write", 150, 150, 99999, 0), p);
        due("treaty(1, 300, 2399975) = 0; drawn(0, 1, 100, 0) = 2399976; drawn(0, 1, 100, 1) = 0; drawn(0, 1, 100, 2) = 100");
        due("drawn(0, MAX, 100, 3) = 239997600; limit(0, 2399976) = 2399975; drawn(0, 1, 100, 2) = 0");
        holds("41", "NONE: no such ones.",
                "drawn(0, 0, 1, 0) = -1; treaty(1, 5, 8) = 0; drawn(1, 0, 1, 0) = -1; drawn(-1, 0, 1, 0) = -1",
                "drawn(0, -1, 1, 0) = -1; drawn(0, MIN, 1, 0) = -1; drawn(0, 0, 0, 0) = -1; drawn(0, 0, 101, 0) = -1",
                "drawn(0, 0, -1, 0) = -1; drawn(0, 0, MIN, 0) = -1; drawn(0, 0, MAX, 0) = -1",
                "drawn(0, 0, 1, -1) = -1; drawn(0, 0, 1, 4) = -1; drawn(0, 0, 1, MIN) = -1; drawn(0, 0, 1, MAX) = -1",
                "drawn(0, 0, 1, 3) = 0; drawn(6, 0, 1, 0) = -1");
    }

    /** Promise 42. */
    private void alarmsKept() {
        edge("42", "Of the i-th ALARM (0 the latest; 30 are kept) what 0 its TREATY, 1 its ACT, 2 WORST then;");
        due("treaty(2, 1, 5) = 0; treaty(1, 1, 10) = 1; write(0, 0, 1, 0) = 0");
        for (int i = 0; i < 29; i++) due("change(0, " + (11 + i) + ") = 1; change(0, 1) = " + (11 + i));
        due("alarm(28, 1) = 2; alarm(28, 2) = 11; alarm(29, 0) = -2; change(0, 40) = 1; alarm(29, 1) = 2; alarm(29, 2) = 11");
        due("alarm(0, 1) = 60; alarm(0, 2) = 40; alarm(0, 0) = 1; alarm(1, 1) = 58; alarm(1, 2) = 39");
        due("change(0, 1) = 40; change(0, 41) = 1; alarm(29, 1) = 4; alarm(29, 2) = 12; alarm(30, 1) = -2; alarm(0, 1) = 62");
        due("its(1, 7) = 31; write(0, 0, 7, 1) = 1; alarm(0, 0) = 0; alarm(0, 2) = 7; alarm(1, 0) = 1; alarm(29, 1) = 6");
        // it stays as it was then
        due("change(1, 9) = 7; alarm(0, 2) = 7; alarm(0, 1) = 63; lapse(1) = 9; alarm(0, 2) = 7; limit(0, 1) = 5");
        due("alarm(0, 0) = 0");
        holds("42", "-2: there are not so many;",
                "alarm(0, 0) = -2; alarm(29, 2) = -2; alarm(30, 0) = -2; alarm(MAX, 0) = -2; treaty(1, 1, 1) = 0",
                "write(0, 0, 2, 0) = 0; alarm(0, 0) = 0; alarm(1, 0) = -2; alarm(29, 0) = -2; alarm(30, 1) = -2",
                "alarm(MAX, 2) = -2");
        holds("42", "NONE: no such ones.",
                "alarm(-1, 0) = -1; alarm(0, -1) = -1; alarm(0, 3) = -1; alarm(MIN, 0) = -1; treaty(1, 1, 1) = 0",
                "write(0, 0, 2, 0) = 0; alarm(-1, 0) = -1; alarm(0, -1) = -1; alarm(0, 3) = -1; alarm(MIN, 0) = -1",
                "alarm(0, MIN) = -1; alarm(0, MAX) = -1; alarm(9, 3) = -1; alarm(30, 3) = -1");
        edge("42", "(A TEXT lets all go, but for those it brings.)");
        due("treaty(1, 1, 1) = 0; write(0, 0, 2, 0) = 0; change(0, 1) = 2; change(0, 3) = 1; alarm(1, 0) = 0");
        reads("policy 0 0 9 0;treaty 1 1 10;treaty 1 1 8;treaty 1 1 7;", 4);
        due("alarm(0, 0) = 2; alarm(0, 1) = 0; alarm(0, 2) = 9; alarm(1, 0) = 1; alarm(2, 0) = -2; its(0, 7) = 0");
        due("its(1, 7) = 1; change(0, 11) = 9; alarm(0, 0) = 0; alarm(0, 1) = 1; alarm(0, 2) = 11; alarm(1, 0) = 2");
        due("alarm(3, 0) = -2");
        reads("policy 0 0 9 0;treaty 1 1 10;", 2);
        due("alarm(0, 0) = -2; its(0, 7) = 0; text(0) = 0; alarm(0, 0) = -2");
    }

    /** Promise 43. */
    private void actsKept() {
        edge("43", "Of the i-th ACT (0 the latest; 30 are kept) what 0 which (0 written, 1 moved, 2 changed, 3 lapsed), 1 the POLICY, 2 how much"
                + " SUMS of all in force became more by it (below 0: less);");
        due("write(0, 0, 5, 3) = 0; act(0, 0) = 0; act(0, 1) = 0; act(0, 2) = 5; write(0, 0, 99999, 0) = 1; act(0, 1) = 1");
        due("act(0, 2) = 99999; move(1, 9, 9) = 162; act(0, 0) = 1; act(0, 1) = 1; act(0, 2) = 0");
        due("change(0, 9) = 5; act(0, 0) = 2; act(0, 1) = 0; act(0, 2) = 4; change(1, 1) = 99999; act(0, 2) = -99998");
        due("lapse(0) = 9; act(0, 0) = 3; act(0, 1) = 0; act(0, 2) = -9; act(5, 2) = 5; act(4, 1) = 1; act(3, 0) = 1");
        due("act(6, 0) = MIN");
        for (int i = 7; i <= 30; i++) due("change(1, " + i + ") = " + (i == 7 ? 1 : i - 1));
        due("act(29, 0) = 0; act(29, 2) = 5; act(30, 0) = MIN; change(1, 31) = 30; act(29, 2) = 99999; act(28, 0) = 1");
        due("act(30, 0) = MIN; act(0, 2) = 1; count(4) = 31; change(1, 33) = 31; act(0, 2) = 2; act(29, 0) = 1");
        due("act(1, 2) = 1");
        holds("43", "Integer.MIN_VALUE: there are not so many, no such ones.",
                "act(0, 0) = MIN; act(-1, 0) = MIN; act(0, 3) = MIN; write(0, 0, 5, 3) = 0; act(1, 0) = MIN; act(0, -1) = MIN",
                "act(0, 3) = MIN; act(-1, 0) = MIN; act(29, 0) = MIN; act(30, 0) = MIN; act(MIN, 0) = MIN; act(MAX, 0) = MIN",
                "act(0, MIN) = MIN; act(0, MAX) = MIN; act(0, 2) = 5; text(0) = 0; act(0, 0) = MIN");
    }

    /** Promise 44. */
    private void counted() {
        holds("44", "0 POLICIES in force, 1 TREATIES, 2 SUMS of POLICIES, 3 TREATIES that are PASSED, 4 ACTS, 5 unlike places, 6 bytes of the TAPE.",
                "write(5, 5, 10, 0) = 0; write(5, 5, 20, 1) = 1; write(5, 6, 40, 2) = 2; count(0) = 3; count(1) = 0",
                "count(2) = 70; count(3) = 0; count(4) = 3; count(5) = 2; count(6) = 0; treaty(1, 1, 9) = 0",
                "treaty(2, 1, 19) = 1; treaty(4, 1, 40) = 2; count(1) = 3; count(3) = 2",
                "move(2, 6, 5) = 2; count(5) = 2; move(2, 5, 5) = 1; count(5) = 1; lapse(0) = 10; count(0) = 2; count(2) = 60",
                "count(3) = 1; count(4) = 6; count(5) = 1; feed(0, 0, 0, 0, 0) = 20; feed(0, 0, 0, 0, 0) = 40; count(6) = 40",
                "lapse(1) = 20; lapse(2) = 40; count(5) = 0; count(2) = 0");
        anew();
        for (int p = 0; p < 24; p++) same("write", ask("write", p, 299 - p, 99999, 0), p);
        for (int t = 0; t < 6; t++) same("treaty", ask("treaty", 1, 1, 1), t);
        due("count(0) = 24; count(1) = 6; count(2) = 2399976; count(3) = 6; count(4) = 24; count(5) = 24");
        holds("44", "NONE for another what.", "count(-1) = -1; count(7) = -1; count(MIN) = -1; count(MAX) = -1");
    }
}
