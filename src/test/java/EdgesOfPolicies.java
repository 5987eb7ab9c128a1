/** The edges of promises 1 to 12: the tape, policies and treaties. */
final class EdgesOfPolicies extends Edges {
    @Override
    void all() {
        newObject();
        fed();
        read();
        faultOfText();
        written();
        moved();
        changed();
        lapsed();
        treatyMore();
        limitChanged();
        policyAsked();
        itsAsked();
    }

    /** Promise 1. */
    private void newObject() {
        edge("1", "No POLICIES, no TREATIES; an empty TAPE.");
        for (int p = -1; p <= 24; p++) due("policy(" + p + ", 0) = OUT");
        for (int t = -1; t <= 6; t++) due("its(" + t + ", 0) = -1");
        due("count(0) = 0; count(1) = 0; count(2) = 0; count(3) = 0; count(4) = 0; count(5) = 0; count(6) = 0; text(1) = -2");
        due("tightest() = -2");
        same("NONE", RiskDesk.NONE, -1);
        // one object knows nothing of another one
        due("write(0, 0, 5, 0) = 0; treaty(1, 1, 1) = 0; feed(0, 0, 0, 0, 0) = 20");
        anew();
        due("count(0) = 0; count(1) = 0; count(6) = 0; write(0, 0, 5, 0) = 0; worst(0, 0) = MIN");
    }

    /** Promise 2. */
    private void fed() {
        edge("2", "Twenty bytes come behind the TAPE, four of each number, the highest first: how many it has;");
        // "policy 1 2 3 0;treat"
        due("feed(1886350441, 1668882481, 540155955, 540031860, 1919246708) = 20; count(6) = 20; text(15) = 1");
        due("policy(0, 0) = 1; policy(0, 1) = 2; policy(0, 2) = 3; policy(0, 3) = 0; count(6) = 0");
        // a line that goes on from one call to the next one
        due("feed(1953654113, 1954095155, 540285229, 0, 0) = 20; count(6) = 20; text(9) = -1; fault(1) = 9");
        feed("policy 1 1 1 1;policy 12 34 567 1;treaty 3 45 678;");
        due("count(6) = 60; text(60) = 3; policy(1, 2) = 567; its(0, 2) = 678");
        // numbers below 0: bytes of 128 and more
        due("feed(1886350441, 1668882481, 540090417, 540097535, -2145378272) = 20; text(15) = 1");
        due("feed(1886350441, 1668882481, 540090417, 540097535, -2145378272) = 20; text(16) = -1; fault(0) = 1; fault(1) = 15");
        due("feed(-1, -1, -1, -1, -1) = 20; text(20) = -1; fault(0) = 1; fault(1) = 0; feed(MIN, MAX, 0, 0, 0) = 20");
        due("text(1) = -1; fault(1) = 0");
        edge("2", "NONE, and none come, if it would have more than 900.");
        feed("policy 1 1 1 1;");
        int blanks = 538976288;
        for (int bytes = 40; bytes <= 900; bytes += 20) same("feed", ask("feed", blanks, blanks, blanks, blanks, blanks), bytes);
        due("feed(993737531, 993737531, 993737531, 993737531, 993737531) = -1; count(6) = 900; feed(0, 0, 0, 0, 0) = -1");
        due("count(6) = 900");
        due("text(901) = -2; text(920) = -2; feed(0, 0, 0, 0, 0) = -1; text(900) = 1; count(6) = 0; feed(0, 0, 0, 0, 0) = 20");
    }

    /** Promise 3. */
    private void read() {
        edge("3", "The TAPE's first n bytes (it is empty then) are the TEXT (all anew): how many LINES;");
        feed("policy 1 1 1 1;policy 2 2 2 2;!");
        due("count(6) = 40; text(15) = 1; count(6) = 0; count(0) = 1; text(1) = -2; fault(0) = 0");
        feed("policy 1 1 1 1;policy 2 2 2 2;!");
        due("text(30) = 2; count(0) = 2; policy(1, 0) = 2");
        feed("policy 1 1 1 1;policy 2 2 2 2;!");
        due("text(31) = -1; fault(1) = 30; count(6) = 0");
        // all that the TAPE has; and nothing of it: no LINES, and all is let go
        due("treaty(15, 1, 1) = 0; change(0, 5) = 1; storm(9, 0, 0, 0, 0, 1) = 2; its(0, 7) = 1; count(4) = 1; hit(1) = 7");
        feed("policy 2 2 2 2;");
        due("text(0) = 0; count(0) = 0; count(1) = 0; count(2) = 0; count(3) = 0; count(4) = 0; count(5) = 0; count(6) = 0");
        due("hit(0) = -2; alarm(0, 0) = -2; act(0, 0) = MIN");
        due("policy(0, 0) = OUT; its(0, 0) = -1; tightest() = -2; write(7, 7, 7, 3) = 0; treaty(8, 1, 6) = 0; pays(0) = -2");
        due("its(0, 6) = 1; its(0, 7) = 1; count(4) = 1");
        same("the most lines", tell(lines("policy 1 1 1 1;", 24) + lines("treaty 1 1 1;", 6)), 30);
        due("count(0) = 24; count(1) = 6; count(3) = 0; count(5) = 1; its(0, 7) = 0; write(1, 1, 1, 1) = -2");
        due("treaty(1, 1, 1) = -2");
        edge("3", "NONE with a FAULT, all else stays;");
        reads("policy 1 1 9 0;treaty 1 1 5;", 2);
        due("change(0, 8) = 9; storm(1, 1, 1, 1, 1, 1) = 1");
        String[] wrongOnes = {"policy 2 2 2 2;treaty 2 2 2", lines("policy 2 2 2 2;", 25), "treaty 2 2 2;policy 300 2 2 2;", "x"};
        for (String bad : wrongOnes) {
            same("a text", tell(bad), -1);
            due("count(0) = 1; count(1) = 1; count(2) = 8; count(3) = 1; count(4) = 1; count(5) = 1; count(6) = 0");
            due("policy(0, 0) = 1; policy(0, 2) = 8; policy(0, 3) = 0");
            due("its(0, 0) = 1; its(0, 1) = 1; its(0, 2) = 5; its(0, 6) = 0; its(0, 7) = 1; worst(0, 0) = 8; hit(0) = 1");
            due("pays(0) = 3; alarm(0, 2) = 9; alarm(1, 0) = -2; act(0, 2) = -1");
        }
        due("text(0) = 0; count(0) = 0; fault(0) = 0");
        edge("3", "-2, and the TAPE stays: there are not so many, n is below 0.");
        due("text(1) = -2; text(20) = -2; text(-1) = -2; text(0) = 0");
        feed("policy 1 2 3 0;");
        due("text(21) = -2; text(-1) = -2; text(MIN) = -2; text(MAX) = -2; text(901) = -2; count(6) = 20; count(0) = 0");
        due("text(20) = 1; policy(0, 1) = 2; text(20) = -2; count(0) = 1");
    }

    /** Promise 4. */
    private void faultOfText() {
        edge("4", "Of the latest text() that was not -2, what 0: its FAULT (0), 1: its place (NONE without).");
        due("fault(0) = 0; fault(1) = -1; text(1) = -2; fault(0) = 0; fault(1) = -1");
        faulty("policy 1 !", 1, 9);
        due("text(1) = -2; text(-1) = -2; fault(0) = 1; fault(1) = 9");
        faulty(";", 1, 0);
        faulty("policy 1 1 0 1;", 2, 11);
        due("text(MAX) = -2; fault(0) = 2; fault(1) = 11; write(0, 0, 0, 0) = -1; fault(0) = 2; fault(1) = 11; text(0) = 0");
        due("fault(0) = 0; fault(1) = -1");
        edge("4", "NONE for another what.");
        due("fault(-1) = -1; fault(2) = -1; fault(MIN) = -1; fault(MAX) = -1");
        faulty("policy 1 1 1 4;", 2, 13);
        due("fault(-1) = -1; fault(2) = -1; fault(3) = -1; fault(MIN) = -1; fault(MAX) = -1");
    }

    /** Promise 5. */
    private void written() {
        edge("5", "A POLICY is written: its number;");
        due("write(0, 0, 1, 0) = 0; write(299, 299, 99999, 3) = 1; write(0, 299, 2, 1) = 2; write(299, 0, 3, 2) = 3");
        due("write(0, 0, 1, 0) = 4");
        due("policy(0, 0) = 0; policy(0, 1) = 0; policy(0, 2) = 1; policy(0, 3) = 0; policy(1, 0) = 299; policy(1, 1) = 299");
        due("policy(1, 2) = 99999; policy(1, 3) = 3");
        due("policy(2, 0) = 0; policy(2, 1) = 299; policy(2, 3) = 1; policy(3, 0) = 299; policy(3, 1) = 0; policy(3, 3) = 2");
        due("count(2) = 100006");
        holds("5", "NONE: no such X, Y, SUM, PERIL;",
                "write(-1, 0, 1, 0) = -1; write(300, 0, 1, 0) = -1; write(0, -1, 1, 0) = -1; write(0, 300, 1, 0) = -1",
                "write(0, 0, 0, 0) = -1",
                "write(0, 0, 100000, 0) = -1; write(0, 0, -1, 0) = -1; write(0, 0, 1, -1) = -1; write(0, 0, 1, 4) = -1",
                "write(0, 0, 1, 32) = -1",
                "write(MIN, 0, 1, 0) = -1; write(0, MAX, 1, 0) = -1; write(0, 0, MIN, 0) = -1; write(0, 0, 1, MAX) = -1",
                "count(0) = 0; count(4) = 0; write(0, 0, 1, 3) = 0");
        edge("5", "-2: there are 24.");
        fill(23);
        due("write(0, 0, 1, 0) = 23; write(0, 0, 1, 0) = -2; count(0) = 24; count(4) = 24; lapse(11) = 12");
        due("write(0, 0, 99, 0) = 11; write(0, 0, 1, 0) = -2; count(0) = 24; policy(11, 2) = 99");
    }

    /** Promise 6. */
    private void moved() {
        holds("6", "A POLICY is moved: how far it was, squared;",
                "write(0, 0, 7, 2) = 0; write(9, 9, 5, 0) = 1; move(0, 299, 299) = 178802; policy(0, 0) = 299",
                "policy(0, 1) = 299; policy(0, 2) = 7; policy(0, 3) = 2",
                "move(0, 299, 299) = 0; move(0, 0, 299) = 89401; move(0, 0, 0) = 89401; move(0, 3, 4) = 25; move(0, 2, 4) = 1",
                "policy(0, 0) = 2; policy(0, 1) = 4; policy(1, 0) = 9",
                "move(1, 2, 4) = 74; policy(1, 4) = 1; count(0) = 2");
        holds("6", "NONE: no such POLICY, place.",
                "move(0, 0, 0) = -1; write(5, 6, 7, 0) = 0; move(1, 0, 0) = -1; move(-1, 0, 0) = -1; move(24, 0, 0) = -1",
                "move(32, 0, 0) = -1; move(MIN, 0, 0) = -1; move(MAX, 0, 0) = -1",
                "move(0, -1, 0) = -1; move(0, 300, 0) = -1; move(0, 0, -1) = -1; move(0, 0, 300) = -1; move(0, MIN, 0) = -1",
                "move(0, 0, MAX) = -1; policy(0, 0) = 5; policy(0, 1) = 6",
                "count(4) = 1; lapse(0) = 7; move(0, 5, 6) = -1; count(4) = 2");
    }

    /** Promise 7. */
    private void changed() {
        holds("7", "SUM of a POLICY becomes another: what it was;",
                "write(0, 0, 50, 3) = 0; change(0, 1) = 50; policy(0, 2) = 1; change(0, 99999) = 1; policy(0, 2) = 99999",
                "change(0, 99999) = 99999; count(2) = 99999; count(4) = 4; policy(0, 3) = 3");
        holds("7", "NONE: no such ones.",
                "change(0, 1) = -1; write(0, 0, 50, 0) = 0; change(0, 0) = -1; change(0, 100000) = -1; change(0, -1) = -1",
                "change(0, MIN) = -1; change(0, MAX) = -1; change(1, 1) = -1",
                "change(-1, 1) = -1; change(24, 1) = -1; change(32, 1) = -1; change(MIN, 1) = -1; change(MAX, 1) = -1",
                "policy(0, 2) = 50; count(4) = 1; lapse(0) = 50; change(0, 1) = -1; count(4) = 2");
    }

    /** Promise 8. */
    private void lapsed() {
        holds("8", "A POLICY lapses: its SUM;",
                "write(0, 0, 1, 0) = 0; write(0, 0, 99999, 0) = 1; lapse(0) = 1; count(0) = 1; count(2) = 99999",
                "policy(0, 0) = OUT; policy(1, 4) = 0; lapse(1) = 99999; count(0) = 0; count(2) = 0");
        anew();
        fill(24);
        due("lapse(23) = 24; lapse(0) = 1; count(0) = 22");
        holds("8", "NONE: no such POLICY.",
                "lapse(0) = -1; write(0, 0, 1, 0) = 0; lapse(1) = -1; lapse(-1) = -1; lapse(24) = -1; lapse(32) = -1",
                "lapse(-32) = -1; lapse(MIN) = -1; lapse(MAX) = -1; count(4) = 1",
                "lapse(0) = 1; lapse(0) = -1; count(4) = 2");
    }

    /** Promise 9. */
    private void treatyMore() {
        holds("9", "A TREATY more: its number;",
                "treaty(1, 1, 1) = 0; treaty(15, 300, 9999999) = 1; treaty(8, 2, 3) = 2; treaty(1, 1, 1) = 3",
                "treaty(1, 1, 1) = 4; treaty(1, 1, 1) = 5; count(1) = 6",
                "its(0, 0) = 1; its(0, 1) = 1; its(0, 2) = 1; its(1, 0) = 15; its(1, 1) = 300; its(1, 2) = 9999999",
                "its(2, 0) = 8; its(2, 1) = 2; its(2, 2) = 3; count(4) = 0");
        holds("9", "NONE: no such PERILS, RADIUS, LIMIT;",
                "treaty(0, 1, 1) = -1; treaty(16, 1, 1) = -1; treaty(-1, 1, 1) = -1; treaty(MIN, 1, 1) = -1",
                "treaty(MAX, 1, 1) = -1; treaty(1, 0, 1) = -1; treaty(1, 301, 1) = -1",
                "treaty(1, -1, 1) = -1; treaty(1, MIN, 1) = -1; treaty(1, MAX, 1) = -1; treaty(1, 1, 0) = -1",
                "treaty(1, 1, 10000000) = -1; treaty(1, 1, -1) = -1; treaty(1, 1, MIN) = -1; treaty(1, 1, MAX) = -1",
                "count(1) = 0");
        holds("9", "-2: there are 6.",
                "treaty(1, 1, 1) = 0; treaty(1, 1, 1) = 1; treaty(1, 1, 1) = 2; treaty(1, 1, 1) = 3; treaty(1, 1, 1) = 4",
                "treaty(1, 1, 1) = 5; treaty(1, 1, 1) = -2; count(1) = 6; its(6, 0) = -1");
    }

    /** Promise 10. */
    private void limitChanged() {
        holds("10", "LIMIT of a TREATY becomes another (no ACT; ALARMS are looked at): what it was;",
                "treaty(1, 1, 10) = 0; limit(0, 1) = 10; limit(0, 9999999) = 1; its(0, 2) = 9999999; write(0, 0, 8, 0) = 0",
                "count(4) = 1; its(0, 6) = -2",
                "limit(0, 8) = 9999999; its(0, 5) = 0; its(0, 7) = 0; limit(0, 7) = 8; its(0, 5) = 1; its(0, 6) = 1",
                "its(0, 7) = 1; alarm(0, 1) = 1; alarm(0, 2) = 8; count(4) = 1",
                // it goes on, and is ended; the next one is of the latest ACT
                "move(0, 1, 1) = 2; limit(0, 6) = 7; its(0, 6) = 1; its(0, 7) = 1; limit(0, 8) = 6; its(0, 6) = -2",
                "its(0, 7) = 1; limit(0, 1) = 8; its(0, 6) = 2; its(0, 7) = 2; count(4) = 2; act(0, 0) = 1",
                // without any ACT it is that of 0; other treaties stay as they were
                "anew", "treaty(1, 1, 5) = 0; treaty(1, 1, 5) = 1; limit(1, 4) = 5; its(0, 2) = 5; its(1, 2) = 4; its(1, 6) = -2");
        edge("10", "LIMIT of a TREATY becomes another (no ACT; ALARMS are looked at): what it was;");
        reads("policy 0 0 9 0;treaty 1 1 9;", 2);
        due("its(0, 6) = -2; limit(0, 8) = 9; its(0, 6) = 0; alarm(0, 1) = 0; count(4) = 0");
        holds("10", "NONE: no such ones.",
                "limit(0, 1) = -1; treaty(1, 1, 5) = 0; limit(0, 0) = -1; limit(0, 10000000) = -1; limit(0, -1) = -1",
                "limit(0, MIN) = -1; limit(0, MAX) = -1; limit(1, 1) = -1",
                "limit(-1, 1) = -1; limit(6, 1) = -1; limit(MIN, 1) = -1; limit(MAX, 1) = -1; its(0, 2) = 5");
    }

    /** Promise 11. */
    private void policyAsked() {
        holds("11", "Of a POLICY, what 0 X, 1 Y, 2 SUM, 3 PERIL, 4 how many others lie at its place.",
                "write(12, 34, 56, 3) = 0; policy(0, 0) = 12; policy(0, 1) = 34; policy(0, 2) = 56; policy(0, 3) = 3",
                "policy(0, 4) = 0",
                "write(12, 34, 7, 0) = 1; write(12, 35, 7, 0) = 2; write(13, 34, 7, 0) = 3; write(34, 12, 7, 0) = 4",
                "policy(0, 4) = 1; policy(1, 4) = 1; policy(2, 4) = 0",
                "move(2, 12, 34) = 1; policy(0, 4) = 2; lapse(1) = 7; policy(0, 4) = 1");
        anew();
        for (int p = 0; p < 24; p++) same("write", ask("write", 5, 5, 1, 0), p);
        due("policy(0, 4) = 23; policy(23, 4) = 23");
        holds("11", "IndexOutOfBoundsException: no such POLICY.",
                "policy(0, 0) = OUT; policy(-1, 0) = OUT; write(1, 1, 1, 1) = 0; policy(1, 0) = OUT; policy(-1, 4) = OUT",
                "policy(24, 0) = OUT; policy(32, 0) = OUT; policy(MIN, 0) = OUT",
                "policy(MAX, 0) = OUT; policy(0, 0) = 1; lapse(0) = 1; policy(0, 0) = OUT");
        holds("11", "NoSuchElementException: no such what.",
                "write(1, 1, 1, 1) = 0; policy(0, -1) = NOSUCH; policy(0, 5) = NOSUCH; policy(0, MIN) = NOSUCH",
                "policy(0, MAX) = NOSUCH; policy(0, 4) = 0; policy(0, 0) = 1");
    }

    /** Promise 12. */
    private void itsAsked() {
        holds("12", "Of a TREATY, what 0 PERILS, 1 RADIUS, 2 LIMIT, 3 POLICIES of its, 4 SUMS of these together, 5 whether it is PASSED"
                + " (1, 0), 6 the ACT of its ALARM (-2: none), 7 how many ALARMS it had;",
                "treaty(5, 7, 30) = 0; its(0, 0) = 5; its(0, 1) = 7; its(0, 2) = 30; its(0, 3) = 0; its(0, 4) = 0",
                "its(0, 5) = 0; its(0, 6) = -2; its(0, 7) = 0",
                "write(0, 0, 20, 0) = 0; write(0, 0, 20, 1) = 1; write(0, 0, 10, 2) = 2; write(200, 0, 500, 3) = 3",
                "its(0, 3) = 2; its(0, 4) = 30; its(0, 5) = 0; its(0, 6) = -2",
                "write(200, 0, 30, 0) = 4; its(0, 3) = 3; its(0, 4) = 60; its(0, 5) = 0; change(4, 31) = 30; its(0, 4) = 61",
                "its(0, 5) = 1; its(0, 6) = 6; its(0, 7) = 1",
                "lapse(4) = 31; its(0, 3) = 2; its(0, 4) = 30; its(0, 5) = 0; its(0, 6) = -2; its(0, 7) = 1",
                "change(0, 21) = 20; its(0, 6) = 8; its(0, 7) = 2");
        holds("12", "NONE: no such ones.",
                "its(0, 0) = -1; treaty(1, 1, 1) = 0; its(0, -1) = -1; its(0, 8) = -1; its(0, MIN) = -1; its(0, MAX) = -1",
                "its(1, 0) = -1; its(-1, 0) = -1; its(6, 0) = -1; its(MIN, 0) = -1; its(MAX, 0) = -1");
    }
}
