/**
 * What the document says under What it is, by one story: three policies on the rim of a disc of radius 5 about 30, 30,
 * where none of them lies.
 */
final class EdgesOfWhatItIs extends Edges {
    private static final String THREE = "treaty(1, 5, 25) = 0; treaty(3, 9, 60) = 1; write(26, 27, 10, 0) = 0; "
            + "write(34, 27, 10, 0) = 1; write(30, 35, 6, 0) = 2; ";

    @Override
    void all() {
        desk();
        worsts();
        watched();
        questions();
        storms();
        line();
        lastCall();
    }

    private void desk() {
        holds("W", "A desk for risks that lie close together: policies with places, sums and perils,"
                + " treaties with a radius, a limit, perils of their own;",
                THREE, "policy(2, 0) = 30; policy(2, 1) = 35; policy(2, 2) = 6; policy(2, 3) = 0; its(1, 0) = 3; its(1, 1) = 9",
                "its(1, 2) = 60; write(30, 31, 40, 1) = 3; its(0, 3) = 3; its(0, 4) = 26; its(1, 3) = 4; its(1, 4) = 66",
                "worst(0, 0) = 26; worst(1, 0) = 66");
    }

    private void worsts() {
        holds("W", "of each the heaviest disc of its radius, wherever its midst may be, without any error:"
                + " how much, which policies, what bounds it;",
                THREE, "worst(0, 0) = 26; worst(0, 1) = 3; worst(0, 2) = -1; inWorst(0, 0) = 0; inWorst(0, 1) = 1; inWorst(0, 2) = 2",
                "bound(0, 0) = 0; bound(0, 1) = 1; bound(0, 2) = 0; ring(0, 0) = 25; ring(0, 1) = 1; spread(0) = 80",
                "bound(1, 0) = 0; bound(1, 1) = -2",
                // of each of them a step outwards parts them, and one inwards does not
                "move(2, 30, 36) = 1; worst(0, 0) = 20; move(2, 30, 34) = 4; worst(0, 0) = 26; move(2, 30, 35) = 1",
                "move(0, 25, 27) = 1; worst(0, 0) = 20; move(0, 26, 26) = 2; worst(0, 0) = 20; move(0, 26, 28) = 4; worst(0, 0) = 26",
                "move(0, 26, 27) = 1; move(1, 35, 27) = 1; worst(0, 0) = 20; move(1, 33, 27) = 4; worst(0, 0) = 26",
                // the midst is out of where policies can be: 0, 3 and 0, 11 with 1, 0 alike lie about -3, 7
                "anew", "treaty(1, 5, 25) = 0; write(0, 3, 1, 0) = 0; write(0, 11, 1, 0) = 1; worst(0, 0) = 2; bound(0, 2) = 0",
                "write(1, 10, 1, 0) = 2; worst(0, 0) = 3; move(2, 2, 7) = 10; worst(0, 0) = 3; bound(0, 2) = 0; move(2, 3, 7) = 1",
                "worst(0, 0) = 3; bound(0, 0) = 2; bound(0, 1) = -2");
    }

    private void watched() {
        holds("W", "treaties watched as policies are written, moved, changed, lapse: which limits are passed, since when, how often;",
                THREE, "its(0, 5) = 1; its(0, 6) = 3; its(0, 7) = 1; its(1, 5) = 0; count(3) = 1; move(2, 30, 36) = 1; its(0, 5) = 0",
                "its(0, 6) = -2; its(0, 7) = 1; move(2, 30, 35) = 1; its(0, 6) = 5; its(0, 7) = 2; change(2, 5) = 6; its(0, 6) = -2",
                "change(2, 7) = 5; its(0, 6) = 7; its(0, 7) = 3; lapse(2) = 7; its(0, 6) = -2; its(0, 7) = 3; count(3) = 0",
                "alarm(0, 1) = 7; alarm(0, 2) = 27; alarm(1, 1) = 5; alarm(1, 2) = 26; alarm(2, 1) = 3; alarm(3, 1) = -2",
                "act(0, 0) = 3; act(0, 1) = 2; act(0, 2) = -7; act(1, 0) = 2; act(1, 2) = 2; act(3, 0) = 1; act(7, 0) = 0");
    }

    private void questions() {
        holds("W", "what one more policy would do, how great it may be, where, which to let go, by which radius so much comes together,"
                + " how near sites are;",
                THREE, "relief(0, 0) = 0; relief(0, 1) = 16; fewest(0) = 1; part(0, 0) = 10; part(0, 2) = 6; second(0) = 0",
                "tightest() = 0; nearest(0) = 1; nearest(2) = 0; couples(8) = 1; couples(9) = 3; together(0, 1, 4) = 1",
                "together(0, 1, 3) = 0; radiusFor(1, 10) = 1; radiusFor(1, 20) = 4; radiusFor(1, 26) = 5; radiusFor(1, 27) = -2",
                "chains(1, 8, 0) = 2; chains(1, 8, 3) = 3; heaviest(1, 4) = 20; heaviestSet(1, 5) = 7; two(1, 1, 0) = 20",
                "two(1, 4, 1) = 7; cover(1, 5) = 1; cover(1, 4) = 2; cover(1, 3) = 3; square(1, 8, 0) = 26; square(1, 7, 0) = 10",
                "lapse(2) = 6; ifWritten(0, 30, 35, 6, 0) = 26; ifWritten(0, 30, 36, 6, 0) = 20; about(0, 30, 30) = 20",
                "most(30, 35, 0) = 5; most(30, 36, 0) = 15; most(200, 200, 0) = 25; most(200, 200, 1) = 60; places(5, 0) = 100",
                "places(6, 0) = 99; places(25, 0) = 99; places(26, 0) = 0");
    }

    private void storms() {
        holds("W", "storms along a track, what they take of each treaty, discs drawn by chance;",
                THREE, "write(60, 30, 1, 1) = 3; storm(5, 30, 30, 60, 30, 3) = 4; hit(0) = 15; hit(1) = 27; hit(2) = 0; hit(3) = 26",
                "pays(0) = 1; pays(1) = 0; limit(1, 20) = 60; pays(1) = 7; storm(5, 60, 30, 31, 30, 1) = 2; hit(0) = 10; pays(0) = 0",
                // the first two discs of seed 0 are about 0, 168 and 88, 217
                "move(0, 0, 163) = 19172; drawn(0, 0, 1, 0) = 10; drawn(0, 0, 2, 1) = 0; drawn(0, 0, 2, 2) = 0; drawn(0, 0, 2, 3) = 10");
    }

    private void line() {
        holds("W", "a policy that moves along a line.",
                THREE, "move(2, 30, 47) = 144; along(0, 2, 30, 23, 2, 0) = 26; along(0, 2, 30, 23, 2, 1) = 1",
                "along(0, 2, 30, 37, 10, 1) = -2; along(0, 2, 30, 35, 12, 1) = 12; policy(2, 1) = 47");
    }

    private void lastCall() {
        edge("W", "An object is used for at most 512 calls after it has been made;");
        due("treaty(1, 1, 10) = 0; write(0, 0, 1, 0) = 0");
        for (int i = 0; i < 250; i++) due("change(0, 11) = 1; change(0, 1) = 11");
        due("act(0, 2) = -10; act(29, 2) = 10; act(30, 0) = MIN; alarm(0, 1) = 500; alarm(29, 1) = 442; alarm(30, 1) = -2");
        due("its(0, 7) = 250; worst(0, 0) = 1; most(0, 0, 0) = 9; count(4) = 501");
        // no test leans on later ones: Bench counts
        edge("W", "what later calls answer is free.");
    }
}
