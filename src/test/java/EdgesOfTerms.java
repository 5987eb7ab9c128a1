/** The edges of what the document says under Terms. */
final class EdgesOfTerms extends Edges {
    @Override
    void all() {
        text();
        sets();
        bounds();
        alarmsOfActs();
        stormsAndDiscs();
        order();
    }

    // ---- Terms 1 ----

    private void text() {
        edge("T1", "A TEXT: { LINE ';' }.");
        reads("", 0);
        reads(" \n", 0);
        reads("policy 1 1 1 1;", 1);
        reads("policy 1 1 1 1;treaty 1 1 1;", 2);
        faulty("policy 1 1 1 1", 1, 14);
        faulty(";", 1, 0);
        faulty("policy 1 1 1 1;;", 1, 15);
        faulty("policy 1 1 1 1 treaty 1 1 1;", 1, 15);
        faulty("policy 1 1 1 1,", 1, 14);

        edge("T1", "LINE: policy N N N N | treaty N N N.");
        reads("policy 1 2 3 0;treaty 4 5 6;", 2);
        due("policy(0, 0) = 1; policy(0, 1) = 2; policy(0, 2) = 3; policy(0, 3) = 0; its(0, 0) = 4; its(0, 1) = 5");
        due("its(0, 2) = 6");
        faulty("policy;", 1, 6);
        faulty("policy 1 1 1;", 1, 12);
        faulty("policy 1 1 1 1 1;", 1, 15);
        faulty("treaty;", 1, 6);
        faulty("treaty 1 1;", 1, 10);
        faulty("treaty 1 1 1 1;", 1, 13);
        faulty("1 1 1 1 policy;", 1, 0);

        edge("T1", "N: digits.");
        reads("policy 007 0 0000000000000000000000000098765 00;", 1);
        due("policy(0, 0) = 7; policy(0, 1) = 0; policy(0, 2) = 98765; policy(0, 3) = 0");
        reads("policy 123 45 67890 1;treaty 8 9 10;", 2);
        due("policy(0, 0) = 123; policy(0, 1) = 45; policy(0, 2) = 67890; its(0, 0) = 8; its(0, 1) = 9; its(0, 2) = 10");
        for (String none : new String[] {"-1", "+1", "/", ":", ".5", "x1", "\u00b2"}) faulty("policy " + none + " 1 1 1;", 1, 7);
        for (String none : new String[] {"-", "/", ":", ".5", "x1", "e2", "\u00b9"}) faulty("policy 1" + none + " 1 1 1;", 1, 8);

        edge("T1", "Blanks 10, 32.");
        reads("\n \npolicy\n1 \n2\n\n3  1 \n ; \ntreaty\n3 4\n5;\n", 2);
        due("policy(0, 0) = 1; policy(0, 1) = 2; policy(0, 2) = 3; policy(0, 3) = 1; its(0, 0) = 3; its(0, 1) = 4");
        due("its(0, 2) = 5");
        for (char sign = 0; sign < 256; sign++) {
            anew();
            if (sign == 10 || sign == 32) reads("policy 1 1 1 1;" + sign, 1);
            else faulty("policy 1 1 1 1;" + sign, 1, 15);
        }
        anew();
        faulty("pol icy 1 1 1 1;", 1, 0);
        faulty("policy 1 2 3 4 5;", 2, 13);
        reads("policy 1 2 34 0;", 1);
        due("policy(0, 2) = 34");

        edge("T1", "policy, at most 24: X, Y 0 .. 299, SUM 1 .. 99999, PERIL 0 .. 3.");
        reads(lines("policy 0 0 1 0;", 24), 24);
        due("count(0) = 24; count(2) = 24");
        faulty(lines("policy 0 0 1 0;", 25), 2, 360);
        reads("policy 0 0 1 0;policy 299 299 99999 3;", 2);
        due("policy(0, 0) = 0; policy(0, 1) = 0; policy(0, 2) = 1; policy(0, 3) = 0");
        due("policy(1, 0) = 299; policy(1, 1) = 299; policy(1, 2) = 99999; policy(1, 3) = 3");
        faulty("policy 300 0 1 0;", 2, 7);
        faulty("policy 0 300 1 0;", 2, 9);
        faulty("policy 0 0 0 0;", 2, 11);
        faulty("policy 0 0 100000 0;", 2, 11);
        faulty("policy 0 0 1 4;", 2, 13);

        edge("T1", "treaty, at most 6: PERILS 1 .. 15 (as bits), RADIUS 1 .. 300, LIMIT 1 .. 9999999.");
        reads(lines("treaty 1 1 1;", 6), 6);
        due("count(1) = 6");
        faulty(lines("treaty 1 1 1;", 7), 2, 78);
        reads("treaty 1 1 1;treaty 15 300 9999999;policy 0 0 1 0;policy 0 0 1 3;", 4);
        due("its(0, 0) = 1; its(0, 1) = 1; its(0, 2) = 1; its(0, 3) = 1; its(1, 0) = 15; its(1, 1) = 300");
        due("its(1, 2) = 9999999; its(1, 3) = 2");
        faulty("treaty 0 1 1;", 2, 7);
        faulty("treaty 16 1 1;", 2, 7);
        faulty("treaty 1 0 1;", 2, 9);
        faulty("treaty 1 301 1;", 2, 9);
        faulty("treaty 1 1 0;", 2, 11);
        faulty("treaty 1 1 10000000;", 2, 11);

        edge("T1", "Both are numbered from 0 on as they come (each for itself).");
        reads("treaty 1 1 11;policy 5 1 1 0;treaty 2 2 22;policy 6 1 1 1;policy 7 1 1 2;", 5);
        due("policy(0, 0) = 5; policy(1, 0) = 6; policy(2, 0) = 7; policy(3, 0) = OUT; its(0, 2) = 11; its(1, 2) = 22");
        due("its(2, 2) = -1");
        faults();
    }

    private void faults() {
        edge("T1", "FAULTS, the first along the text (of one place the least), with its place:");
        faulty("policy 300 x 1 1;", 2, 7);
        faulty("policy x 300 1 1;", 1, 7);
        faulty("policy 1 1 1 4", 2, 13);
        faulty("policy 1 1 0 4;", 2, 11);
        faulty("policy 1 1 1 1;policy 1 300 1 1;!", 2, 24);
        faulty("policy 1 1 1 1 300000;", 1, 15);
        faulty("99999999 1 1 1;", 1, 0);
        String full = lines("policy 1 1 1 1;", 24);
        faulty(full + "policies 1 1 1 1;", 1, 360);
        faulty(full + "policy !", 2, 360);
        faulty(full + "!policy", 1, 360);
        faulty(full + "treaty 1 1 policy", 1, 371);
        anew();
        String six = lines("treaty 1 1 1;", 6);
        faulty(six + "treatys 1 1 1;", 1, 78);
        faulty(six + "treaty 0 0 0;", 2, 78);
        faulty(six + "policy 1 1 1 treaty", 1, 91);

        edge("T1", "1 a TOKEN that is none (a word that isn't of the language, too) or can't stand there (the length, if more must come).");
        for (String none : new String[] {"!", "\t", "\r", "\u0000", "\u007f", "\u0080", "\u00ff", "_", "`", "{", "@", "["}) {
            faulty("  " + none, 1, 2);
            faulty("policy 1 " + none, 1, 9);
        }
        for (String word : new String[] {"p", "polic", "policya", "policyz", "policytreaty", "zolicy", "treat", "treatyz", "a", "z"}) {
            faulty(" " + word + " 1 1 1 1;", 1, 1);
            faulty("policy 1 1 " + word, 1, 11);
        }
        faulty("policy treaty 1 1 1;", 1, 7);
        faulty("treaty policy", 1, 7);
        faulty("policy ;", 1, 7);
        faulty("treaty 1 1 1 policy", 1, 13);
        faulty("1", 1, 0);
        anew();
        faulty("policy", 1, 6);
        faulty("policy ", 1, 7);
        faulty("policy 1", 1, 8);
        faulty("policy 1 1 1 ", 1, 13);
        faulty("policy 1 1 1 1", 1, 14);
        faulty("policy 1 1 1 1 \n", 1, 16);
        faulty("policy 1 1 1 1;treaty 1 1", 1, 25);
        // the length is that of the TEXT, not of the TAPE
        feed("policy 1 1 1 1;policy ");
        due("text(14) = -1; fault(0) = 1; fault(1) = 14");
        feed("policy 1 1 1 1;policy ");
        due("text(20) = -1; fault(0) = 1; fault(1) = 15");
        feed("policy 1 1 1 1;policy ");
        due("text(22) = -1; fault(0) = 1; fault(1) = 22");
        // nor do the digits behind it count
        feed("policy 1 1 1 12;");
        due("text(14) = -1; fault(0) = 1; fault(1) = 14");

        edge("T1", "2 too much (at it): a number beyond what is said; a 25th policy, a seventh treaty (at the word).");
        faulty("policy 300 1 1 1;", 2, 7);
        faulty("policy \n 0000300 1 1 1;", 2, 9);
        for (String number : new String[] {"1000", "2147483648", "4294967297", "18446744073709551617", "9".repeat(60)}) {
            faulty("policy 1 1 1 " + number + ";", 2, 13);
            faulty("treaty 1 " + number + " 1;", 2, 9);
        }
        reads(lines("policy 1 1 1 1;", 24) + lines("treaty 1 1 1;", 6), 30);
        anew();
        faulty(lines("policy 1 1 1 1;", 24) + "\n policy 1 1 1 1;", 2, 362);
        faulty(lines("policy 1 1 1 1;", 24) + lines("treaty 1 1 1;", 6) + " treaty", 2, 439);
        faulty(lines("policy 1 1 1 1;", 24) + lines("treaty 1 1 1;", 6) + "policy", 2, 438);
        faulty("policy 1 1 1 1;" + lines("treaty 1 1 1;", 6) + "treaty 1 1 1;", 2, 93);
        // those of an earlier TEXT don't count
        reads(lines("policy 1 1 1 1;", 24), 24);
        reads(lines("policy 1 1 1 1;", 24), 24);
    }

    // ---- Terms 2: sets ----

    private void sets() {
        holds("T2", "POLICIES that are in force: those that were written and haven't lapsed"
                + " (numbers stay; a new one has the least number that is free).",
                "write(1, 1, 11, 0) = 0; write(2, 2, 22, 1) = 1; write(3, 3, 33, 2) = 2; lapse(1) = 22; policy(1, 0) = OUT",
                "policy(0, 2) = 11; policy(2, 2) = 33; lapse(0) = 11; policy(2, 0) = 3; count(0) = 1; count(2) = 33",
                "write(4, 4, 44, 3) = 0; write(5, 5, 55, 0) = 1; write(6, 6, 66, 0) = 3; policy(2, 2) = 33; count(0) = 4");
        anew();
        fill(24);
        due("lapse(23) = 24; lapse(7) = 8; write(0, 0, 1, 0) = 7; write(0, 0, 1, 0) = 23; write(0, 0, 1, 0) = -2");
        due("policy(22, 2) = 23");
        holds("T2", "One is of a TREATY, if its PERIL is one of the TREATY's.",
                "write(9, 9, 1, 0) = 0; write(9, 9, 20, 1) = 1; write(9, 9, 300, 2) = 2; write(9, 9, 4000, 3) = 3",
                "treaty(1, 1, 1) = 0; treaty(2, 1, 1) = 1; treaty(4, 1, 1) = 2; treaty(8, 1, 1) = 3; treaty(10, 1, 1) = 4",
                "treaty(15, 1, 1) = 5",
                "its(0, 4) = 1; its(1, 4) = 20; its(2, 4) = 300; its(3, 4) = 4000; its(4, 4) = 4020; its(5, 4) = 4321",
                "worst(0, 0) = 1; worst(1, 0) = 20; worst(2, 0) = 300; worst(3, 0) = 4000; worst(4, 0) = 4020",
                "worst(5, 0) = 4321");
        holds("T2", "A SET of POLICIES goes TOGETHER by a RADIUS, if there is a disc of that RADIUS (its midst anywhere in the"
                + " plane, its rim belongs to it) in which all of them lie and no other POLICY of those that are asked of.",
                // two as far as a disc is wide, and farther by as little as can be
                "write(0, 0, 1, 0) = 0; write(6, 8, 1, 0) = 1; heaviest(1, 5) = 2; heaviest(1, 4) = 1",
                "move(1, 7, 8) = 1; heaviest(1, 5) = 1; move(1, 10, 0) = 73; heaviest(1, 5) = 2; move(1, 10, 1) = 1",
                "heaviest(1, 5) = 1",
                // the midst is 11.2, 12.6, and all three are on the rim
                "anew", "write(8, 0, 1, 0) = 0; write(19, 23, 1, 0) = 1; write(0, 6, 1, 0) = 2; heaviest(1, 13) = 3",
                "heaviest(1, 12) = 2",
                "move(2, 0, 5) = 1; heaviest(1, 13) = 2; heaviest(1, 14) = 3",
                // the rim is missed by less than a millionth, and reached by as little
                "anew", "write(159, 31, 1, 0) = 0; write(128, 212, 1, 0) = 1; write(240, 168, 1, 0) = 2; heaviest(1, 93) = 2",
                "heaviest(1, 94) = 3",
                "anew", "write(220, 176, 1, 0) = 0; write(275, 49, 1, 0) = 1; write(2, 23, 1, 0) = 2; heaviest(1, 140) = 3",
                "heaviest(1, 139) = 2",
                // at the corners of the least squares: 3 is on the other side of 0 and 1 than 2
                "anew", "write(0, 0, 1, 0) = 0; write(1, 1, 1, 0) = 1; write(2, 0, 1, 0) = 2; write(0, 1, 1, 0) = 3",
                "heaviest(1, 1) = 3; heaviest(1, 2) = 4",
                "anew", "write(0, 0, 1, 0) = 0; write(1, 1, 1, 0) = 1; write(0, 2, 1, 0) = 2; write(1, 0, 1, 0) = 3",
                "heaviest(1, 1) = 3; heaviest(1, 2) = 4",
                // 2 and 3 are too far from one another, though each goes with 0 and with 1: at one place, or too far apart as well
                "anew", "write(10, 10, 1, 0) = 0; write(10, 10, 1, 0) = 1; write(0, 10, 9, 0) = 2; write(20, 10, 9, 0) = 3",
                "heaviest(1, 5) = 11; heaviestSet(1, 5) = 7",
                "anew", "write(0, 0, 1, 0) = 0; write(10, 1, 1, 0) = 1; write(0, 1, 9, 0) = 2; write(10, 0, 9, 0) = 3",
                "heaviest(1, 5) = 10; heaviestSet(1, 5) = 5",
                // others that lie in it: those that are asked of belong to the set, no others do
                "anew", "write(0, 0, 1, 0) = 0; write(4, 0, 1, 1) = 1; write(8, 0, 1, 0) = 2; heaviestSet(1, 4) = 5",
                "heaviestSet(3, 4) = 7; heaviestSet(2, 4) = 2",
                // the midst is below 0 for SIDE 0, and beyond 299 for SIDE 0 of the other two
                "anew", "treaty(1, 9, 9) = 0; write(0, 0, 1, 0) = 0; write(0, 10, 1, 0) = 1; bound(0, 1) = 1; bound(0, 2) = 0",
                "move(0, 299, 10) = 89501; move(1, 299, 0) = 89501; worst(0, 0) = 2; bound(0, 1) = 1; bound(0, 2) = 0");
        holds("T2", "HEAVIEST of some POLICIES by a RADIUS: of all SETS that go TOGETHER that of the most SUMS, of several the"
                + " one that is least as a number of bits (2 to the power of each number).",
                "write(0, 0, 5, 0) = 0; write(100, 0, 6, 0) = 1; heaviest(1, 1) = 6; heaviestSet(1, 1) = 2; change(0, 6) = 5",
                "heaviestSet(1, 1) = 1",
                "change(0, 7) = 6; heaviestSet(1, 1) = 1; heaviest(1, 1) = 7",
                // 6 is less than 9, and 3 is less than 4
                "anew", "write(0, 0, 5, 0) = 0; write(100, 0, 5, 0) = 1; write(101, 0, 5, 0) = 2; write(1, 0, 5, 0) = 3",
                "heaviestSet(1, 1) = 6",
                "anew", "write(0, 0, 5, 0) = 0; write(1, 0, 5, 0) = 1; write(100, 0, 10, 0) = 2; heaviestSet(1, 1) = 3",
                "change(2, 11) = 10; heaviestSet(1, 1) = 4",
                // many that are less, against few that are more
                "anew", "write(0, 0, 1, 0) = 0; write(50, 0, 9, 0) = 1; write(0, 1, 1, 0) = 2; write(1, 0, 1, 0) = 3",
                "heaviestSet(1, 2) = 2; heaviest(1, 2) = 9",
                // in one disc or the other one, with one that both have
                "anew", "write(10, 0, 1, 0) = 0; write(0, 0, 4, 0) = 1; write(20, 0, 4, 0) = 2; heaviestSet(1, 5) = 3",
                "change(2, 5) = 4; heaviestSet(1, 5) = 5");
        holds("T2", "Of none: 0, nothing.",
                "heaviest(15, 1) = 0; heaviestSet(15, 1) = 0; treaty(1, 1, 1) = 0; worst(0, 0) = 0; worst(0, 1) = 0",
                "write(0, 0, 1, 1) = 0",
                "heaviest(13, 300) = 0; heaviestSet(13, 300) = 0; worst(0, 0) = 0; worst(0, 1) = 0; second(0) = 0");
        holds("T2", "WORST of a TREATY: the HEAVIEST of its POLICIES by its RADIUS.",
                "write(0, 0, 1, 0) = 0; write(2, 0, 2, 1) = 1; write(4, 0, 4, 0) = 2; write(200, 0, 3, 1) = 3",
                "treaty(3, 1, 9) = 0; treaty(3, 2, 9) = 1; treaty(1, 1, 9) = 2; treaty(1, 2, 9) = 3; treaty(2, 300, 9) = 4",
                "treaty(2, 1, 9) = 5",
                "worst(0, 0) = 6; worst(1, 0) = 7; worst(2, 0) = 4; worst(3, 0) = 5; worst(4, 0) = 5; worst(5, 0) = 3",
                // as they are now: 1 went with 0 and 2, then goes with 0 and 3, but never with all of them
                "anew", "treaty(1, 5, 9) = 0; write(50, 50, 1, 0) = 0; write(60, 50, 1, 0) = 1; write(55, 50, 1, 0) = 2",
                "write(45, 50, 1, 0) = 3; worst(0, 0) = 3; move(1, 40, 50) = 400; worst(0, 0) = 3; change(1, 2) = 1",
                "worst(0, 0) = 4; inWorst(0, 0) = 0; inWorst(0, 1) = 1; inWorst(0, 2) = 3",
                "lapse(1) = 2; worst(0, 0) = 3; write(60, 50, 2, 0) = 1; worst(0, 0) = 4; inWorst(0, 2) = 2",
                // 1 has lapsed, 2 comes to where it would have gone with 0 and 1; another 1 goes with 0 alone
                "anew", "treaty(1, 5, 9) = 0; write(50, 50, 1, 0) = 0; write(60, 50, 1, 0) = 1; write(200, 200, 1, 0) = 2",
                "lapse(1) = 1; move(2, 55, 50) = 43525; write(40, 50, 1, 0) = 1; worst(0, 0) = 2; worst(0, 1) = 2",
                // the same, with the numbers of both changed
                "anew", "treaty(1, 5, 9) = 0; write(60, 50, 1, 0) = 0; write(50, 50, 1, 0) = 1; write(200, 200, 1, 0) = 2",
                "lapse(0) = 1; move(2, 55, 50) = 43525; write(40, 50, 1, 0) = 0; worst(0, 0) = 2; worst(0, 1) = 2",
                // the same with one of another peril in the place of the one that has lapsed
                "anew", "treaty(1, 5, 9) = 0; write(50, 50, 1, 0) = 0; write(60, 50, 1, 1) = 1; write(55, 50, 1, 0) = 2; lapse(1) = 1",
                "write(40, 50, 1, 0) = 1; worst(0, 0) = 2; worst(0, 1) = 2");
        holds("T2", "It is PASSED, if that is more than LIMIT.",
                "treaty(1, 1, 10) = 0; its(0, 5) = 0; write(0, 0, 9, 0) = 0; its(0, 5) = 0; change(0, 10) = 9; its(0, 5) = 0",
                "count(3) = 0",
                "change(0, 11) = 10; its(0, 5) = 1; count(3) = 1; limit(0, 11) = 10; its(0, 5) = 0; limit(0, 9999999) = 11",
                "its(0, 5) = 0");
    }

    // ---- Terms 2: bounds ----

    private void bounds() {
        holds("T2", "BOUNDS of WORST: does it lie in the disc about one of its POLICIES alone (and no other one of the TREATY's):"
                + " that one, the least;",
                "treaty(3, 5, 99) = 0; write(9, 9, 1, 0) = 0; bound(0, 0) = 0; bound(0, 1) = -2; bound(0, 2) = 0",
                // the rim of that disc belongs to it
                "write(12, 13, 1, 0) = 1; bound(0, 0) = 0; bound(0, 1) = -2; move(1, 12, 14) = 1; bound(0, 0) = 0",
                "bound(0, 1) = 1",
                // not about the least, but about the second one, of which there are two
                "anew", "treaty(1, 5, 99) = 0; write(0, 0, 1, 0) = 0; write(5, 0, 1, 0) = 1; write(5, 0, 1, 0) = 2",
                "write(9, 0, 1, 0) = 3",
                "bound(0, 0) = 1; bound(0, 1) = -2; bound(0, 2) = 0; lapse(1) = 1; bound(0, 0) = 2; bound(0, 1) = -2",
                "bound(0, 2) = 0",
                // two on a rim come behind one alone, though their numbers are less
                "write(8, 0, 1, 0) = 1; bound(0, 0) = 2; bound(0, 1) = -2",
                // one of another peril in the disc about it is not of WORST
                "write(6, 1, 50, 2) = 4; bound(0, 0) = 2; bound(0, 1) = -2; worst(0, 1) = 4");
        holds("T2", "else the first two of them (the least, then the least) at unlike places, not farther than twice RADIUS from one"
                + " another, so that WORST lies in a disc on whose rim both are, no other POLICY of the TREATY's in it;",
                "treaty(1, 5, 99) = 0; write(0, 0, 1, 0) = 0; write(0, 0, 1, 0) = 1; write(10, 0, 1, 0) = 2",
                "write(10, 0, 1, 0) = 3",
                "bound(0, 0) = 0; bound(0, 1) = 2; lapse(2) = 1; bound(0, 0) = 0; bound(0, 1) = 3; lapse(0) = 1",
                "bound(0, 0) = 1; bound(0, 1) = 3",
                // with 0 and 1 on the rim 2 is not in the disc; with others numbered so neither 0, 1 nor 0, 2 are
                "anew", "treaty(1, 5, 99) = 0; write(0, 0, 1, 0) = 0; write(2, 0, 1, 0) = 1; write(10, 0, 1, 0) = 2; bound(0, 0) = 0",
                "bound(0, 1) = 2; bound(0, 2) = 0",
                "move(0, 2, 0) = 4; move(1, 0, 0) = 4; worst(0, 1) = 3; bound(0, 0) = 1; bound(0, 1) = 2; bound(0, 2) = 0",
                // the nearest that two may be; and two at the ends of a disc with one on its rim on each side
                "anew", "treaty(1, 5, 99) = 0; write(0, 0, 1, 0) = 0; write(0, 1, 1, 0) = 1; write(9, 0, 1, 0) = 2; worst(0, 1) = 3",
                "bound(0, 0) = 0; bound(0, 1) = 1; bound(0, 2) = 1",
                "anew", "treaty(1, 5, 99) = 0; write(0, 5, 1, 0) = 0; write(10, 5, 1, 0) = 1; write(5, 10, 1, 0) = 2",
                "write(5, 0, 1, 0) = 3; worst(0, 1) = 4; bound(0, 0) = 0; bound(0, 1) = 1; bound(0, 2) = 0",
                // about a pentagon 0, 3, 1, 2, 4 the neighbours bound it: 0 and 3 go ahead of 1 and 2
                "anew", "treaty(1, 51, 99) = 0; write(100, 150, 1, 0) = 0; write(71, 60, 1, 0) = 1; write(129, 60, 1, 0) = 2",
                "write(52, 115, 1, 0) = 3",
                "write(148, 115, 1, 0) = 4; worst(0, 1) = 5; bound(0, 0) = 0; bound(0, 1) = 3; bound(0, 2) = 0",
                // WORST is 0, 1, 2; 3 lies in one of the discs with 0 and 1 on the rim, but is not of it
                "anew", "treaty(1, 5, 99) = 0; write(0, 0, 5, 0) = 0; write(8, 0, 5, 0) = 1; write(4, 8, 9, 0) = 2",
                "write(4, 6, 1, 1) = 3",
                "worst(0, 0) = 19; bound(0, 0) = 0; bound(0, 1) = 1; bound(0, 2) = 0; write(4, 1, 1, 0) = 4; worst(0, 0) = 20",
                "bound(0, 1) = 1");
        holds("T2", "SIDE: 0, if its midst is to the left as one goes from the first to the second one (X to the right, Y upwards),"
                + " or on that line, 1, if it is to the right (of both 0).",
                // on the line
                "treaty(1, 5, 99) = 0; write(10, 10, 5, 0) = 0; write(20, 10, 5, 0) = 1; bound(0, 1) = 1; bound(0, 2) = 0",
                // both sides
                "move(1, 18, 10) = 4; bound(0, 1) = 1; bound(0, 2) = 0",
                // a third one above or below says on which side; from left to right the left is upwards
                "write(14, 17, 5, 0) = 2; worst(0, 1) = 3; bound(0, 0) = 0; bound(0, 1) = 1; bound(0, 2) = 0",
                "move(2, 14, 3) = 196; worst(0, 1) = 3; bound(0, 0) = 0; bound(0, 1) = 1; bound(0, 2) = 1",
                // from below upwards the left is where X is less
                "move(1, 10, 18) = 128; move(2, 17, 14) = 130; worst(0, 1) = 3; bound(0, 1) = 1; bound(0, 2) = 1",
                "move(2, 3, 14) = 196; worst(0, 1) = 3; bound(0, 1) = 1; bound(0, 2) = 0",
                // and the other way round
                "move(0, 10, 18) = 64; move(1, 10, 10) = 64; worst(0, 1) = 3; bound(0, 1) = 1; bound(0, 2) = 1",
                // one alone
                "move(2, 9, 14) = 36; bound(0, 0) = 2; bound(0, 1) = -2; bound(0, 2) = 0");
    }

    // ---- Terms 2: acts and alarms ----

    private void alarmsOfActs() {
        holds("T2", "ACTS: a POLICY is written, moved, changed, lapses; they are numbered from 1 on.",
                "treaty(1, 1, 1) = 0; count(4) = 0; write(0, 0, 2, 0) = 0; count(4) = 1; its(0, 6) = 1; alarm(0, 1) = 1",
                "move(0, 1, 0) = 1; count(4) = 2; change(0, 1) = 2; count(4) = 3; change(0, 2) = 1; its(0, 6) = 4",
                "lapse(0) = 2; count(4) = 5",
                // these are none
                "limit(0, 2) = 1; treaty(1, 1, 1) = 1; storm(1, 0, 0, 0, 0, 1) = 0; feed(538976288, 0, 0, 0, 0) = 20",
                "text(21) = -2; count(4) = 5",
                "write(0, 0, 0, 0) = -1; move(0, 0, 0) = -1; change(0, 1) = -1; lapse(0) = -1; count(4) = 5; its(0, 5) = 0",
                "ifWritten(0, 0, 0, 1, 0) = 1; count(4) = 5",
                // one that changes nothing of the policy is an act as well
                "write(5, 5, 5, 0) = 0; move(0, 5, 5) = 0; change(0, 5) = 5; count(4) = 8",
                "text(4) = 0; count(4) = 0; treaty(1, 1, 1) = 0; write(0, 0, 2, 0) = 0; its(0, 6) = 1");
        holds("T2", "Behind each the TREATIES are looked at: one that is PASSED and wasn't ahead of it has an ALARM of that ACT;"
                + " one that isn't any more ends its ALARM.",
                // by one that is written, and ended by one that lapses; in between it stays that of the first act
                "treaty(1, 1, 10) = 0; treaty(3, 1, 20) = 1; treaty(2, 1, 1) = 2; write(0, 0, 10, 0) = 0; its(0, 6) = -2",
                "alarm(0, 0) = -2",
                "write(0, 0, 1, 0) = 1; its(0, 6) = 2; its(0, 7) = 1; its(1, 6) = -2; its(2, 6) = -2; write(0, 0, 9, 0) = 2",
                "its(0, 6) = 2; its(0, 7) = 1",
                "its(1, 6) = -2; write(1, 0, 1, 1) = 3; its(1, 6) = 4; its(2, 6) = -2; alarm(0, 0) = 1; alarm(1, 0) = 0",
                "alarm(2, 0) = -2",
                "lapse(1) = 1; its(0, 6) = 2; its(1, 6) = -2; its(1, 7) = 1; lapse(2) = 9; its(0, 6) = -2; its(0, 7) = 1",
                "alarm(0, 0) = 1; alarm(1, 0) = 0",
                // by one that is moved, both ways
                "write(9, 0, 5, 0) = 1; its(0, 6) = -2; move(1, 0, 1) = 82; its(0, 6) = 8; its(0, 7) = 2; move(1, 0, 2) = 1",
                "its(0, 6) = 8; move(1, 0, 3) = 1; its(0, 6) = -2",
                // by one that is changed, both ways
                "change(1, 11) = 5; its(0, 6) = 11; its(0, 7) = 3; change(1, 10) = 11; its(0, 6) = -2; alarm(0, 1) = 11",
                "alarm(1, 1) = 8; alarm(2, 1) = 4; alarm(3, 1) = 2",
                // two of one act: the later treaty is the latest
                "anew", "treaty(1, 1, 1) = 0; treaty(1, 2, 1) = 1; write(0, 0, 2, 0) = 0; its(0, 6) = 1; its(1, 6) = 1",
                "alarm(0, 0) = 1; alarm(1, 0) = 0; alarm(1, 1) = 1");
        edge("T2", "(Behind a TEXT, too: ACT 0; treaties added by call: the ACT is the latest one.)");
        reads("treaty 1 1 4;policy 0 0 5 0;treaty 1 1 5;treaty 1 1 1;", 4);
        due("its(0, 6) = 0; its(0, 7) = 1; its(1, 6) = -2; its(1, 7) = 0; its(2, 6) = 0; alarm(0, 0) = 2; alarm(0, 1) = 0");
        due("alarm(1, 0) = 0; alarm(2, 0) = -2");
        due("treaty(1, 1, 4) = 3; its(3, 6) = 0; its(3, 7) = 1; move(0, 5, 5) = 50; change(0, 5) = 5; treaty(1, 1, 4) = 4");
        due("its(4, 6) = 2; its(3, 6) = 0");
        due("alarm(0, 0) = 4; alarm(0, 1) = 2; alarm(0, 2) = 5; treaty(1, 1, 5) = 5; its(5, 6) = -2; its(5, 7) = 0");
        due("alarm(0, 0) = 4; count(4) = 2");
    }

    // ---- Terms 2: storms and discs ----

    private void stormsAndDiscs() {
        holds("T2", "STORM of a RADIUS along a TRACK (from, to, n): its midst is at n and 1 places (n 1 .. 100): from and k times"
                + " (to less from) by n, each of both numbers for itself, downwards, k 0 .. n.",
                // of 1 the two ends; of 2 the half as well
                "write(0, 0, 1, 0) = 0; write(5, 3, 2, 0) = 1; write(10, 7, 4, 0) = 2; storm(0, 0, 0, 10, 7, 1) = 2",
                "hit(0) = 5",
                "storm(0, 0, 0, 10, 7, 2) = 3; hit(0) = 7; storm(0, 10, 7, 0, 0, 2) = 3; hit(0) = 7",
                "storm(0, 5, 3, 5, 3, 100) = 1; hit(0) = 2",
                // back from 100 by 3 they are 66 and 33, downwards as well: not 67 and 34
                "anew", "write(33, 66, 1, 0) = 0; write(66, 33, 2, 0) = 1; write(33, 67, 4, 0) = 2; write(67, 33, 8, 0) = 3",
                "write(34, 66, 16, 0) = 4",
                "storm(0, 0, 100, 100, 0, 3) = 2; hit(0) = 3; storm(0, 100, 0, 0, 100, 3) = 2; hit(0) = 3",
                // from a place that is not 0; each number for itself
                "anew", "write(102, 196, 1, 0) = 0; write(104, 194, 2, 0) = 1; write(102, 197, 4, 0) = 2",
                "storm(0, 100, 199, 107, 192, 3) = 2; hit(0) = 3",
                // none ahead of the first place, none behind the last one
                "anew", "write(90, 0, 1, 0) = 0; write(120, 0, 1, 0) = 1; storm(0, 100, 0, 110, 0, 1) = 0",
                "storm(0, 110, 0, 100, 0, 1) = 0; storm(9, 100, 0, 110, 0, 1) = 0; storm(10, 100, 0, 110, 0, 1) = 2",
                // a hundred steps: 2 is the first, 296 the last but the end
                "anew", "write(2, 0, 1, 0) = 0; write(296, 0, 2, 0) = 1; write(299, 0, 4, 0) = 2; write(3, 0, 8, 0) = 3",
                "write(0, 0, 16, 0) = 4",
                "storm(0, 0, 0, 299, 0, 100) = 4; hit(0) = 23; storm(0, 0, 0, 299, 0, 1) = 2; hit(0) = 20");
        holds("T2", "A POLICY is HIT, if it lies in one of these discs (the rim, too).",
                "write(103, 104, 1, 0) = 0; write(103, 105, 2, 0) = 1; write(95, 100, 4, 0) = 2; write(94, 100, 8, 0) = 3",
                "storm(5, 100, 100, 100, 100, 1) = 2; hit(0) = 5; storm(6, 100, 100, 100, 100, 1) = 4",
                // in several of them: once; between two of them: not
                "storm(5, 100, 100, 99, 100, 100) = 3; hit(1) = 13; storm(1, 100, 100, 88, 100, 1) = 0",
                "storm(0, 103, 104, 103, 105, 1) = 2");
        holds("T2", "What a TREATY PAYS of some POLICIES that were HIT: SUMS of its own of them, less LIMIT, 0 at least.",
                "write(0, 0, 10, 0) = 0; write(0, 0, 20, 1) = 1; write(9, 9, 40, 0) = 2; treaty(1, 1, 9) = 0",
                "treaty(1, 300, 10) = 1; treaty(3, 1, 29) = 2",
                "treaty(4, 1, 1) = 3; treaty(1, 1, 11) = 4; storm(0, 0, 0, 0, 0, 1) = 2",
                "pays(0) = 1; pays(1) = 0; pays(2) = 1; pays(3) = 0; pays(4) = 0; storm(13, 0, 0, 0, 0, 1) = 3; pays(0) = 41",
                "pays(1) = 40; pays(2) = 41");
        holds("T2", "DRAWN: x becomes x times 1103515245 and 12345, of that what is left by 2147483648; by 65536, downwards, modulo"
                + " what is said. The first x is the seed.",
                // the first disc of seed 0 is about 0, 168; then 88, 217; of the greatest seed 29, 209; then 262, 18
                "treaty(1, 1, 1) = 0; write(0, 168, 5, 0) = 0; drawn(0, 0, 1, 3) = 5; move(0, 1, 168) = 1",
                "drawn(0, 0, 1, 3) = 5; move(0, 2, 168) = 1; drawn(0, 0, 1, 3) = 0",
                "move(0, 88, 217) = 9797; drawn(0, 0, 1, 3) = 0; drawn(0, 0, 2, 3) = 5; drawn(0, 0, 2, 1) = 1",
                "move(0, 38, 58) = 27781; drawn(0, 1, 1, 3) = 5",
                "move(0, 29, 209) = 22882; drawn(0, MAX, 1, 3) = 5; move(0, 262, 18) = 90770; drawn(0, MAX, 2, 1) = 1",
                "drawn(0, MAX, 2, 3) = 5; drawn(0, MAX, 1, 3) = 0",
                "move(0, 59, 18) = 41209; drawn(0, 2147483646, 1, 3) = 5; move(0, 136, 120) = 16333",
                "drawn(0, 2147483646, 2, 1) = 1",
                // of seed 3 about 47, 207, of seed 5 about 55, 57: one farther in each of four ways is in the disc, two farther is not
                "anew", "treaty(1, 1, 1) = 0; write(46, 207, 1, 0) = 0; write(48, 207, 1, 0) = 1; write(47, 206, 1, 0) = 2",
                "write(47, 208, 1, 0) = 3; drawn(0, 3, 1, 0) = 4",
                "move(0, 45, 207) = 1; move(1, 49, 207) = 1; move(2, 47, 205) = 1; move(3, 47, 209) = 1; drawn(0, 3, 1, 0) = 0",
                "anew", "treaty(1, 1, 1) = 0; write(54, 57, 1, 0) = 0; write(56, 57, 1, 0) = 1; write(55, 56, 1, 0) = 2",
                "write(55, 58, 1, 0) = 3; drawn(0, 5, 1, 0) = 4",
                "move(0, 53, 57) = 1; move(1, 57, 57) = 1; move(2, 55, 55) = 1; move(3, 55, 59) = 1; drawn(0, 5, 1, 0) = 0");
    }

    // ---- Terms 3 ----

    private void order() {
        edge("T3", "What is asked changes nothing.");
        due("write(0, 0, 9, 0) = 0; write(1, 0, 9, 1) = 1; treaty(1, 1, 5) = 0; treaty(3, 1, 5) = 1");
        due("storm(1, 0, 0, 1, 0, 1) = 2");
        for (int again = 0; again < 2; again++) {
            due("heaviest(2, 300) = 9; heaviestSet(2, 300) = 2; two(2, 300, 0) = 9; cover(3, 1) = 1; radiusFor(3, 19) = -2");
            due("square(3, 1, 0) = 18");
            due("ifWritten(0, 0, 0, 7, 0) = 16; about(0, 0, 0) = 9; most(9, 9, 0) = 0; places(5, 2) = 100; relief(0, 0) = 0");
            due("fewest(0) = 1");
            due("along(1, 0, 299, 299, 20, 0) = 18; along(1, 0, 299, 299, 20, 1) = 0; drawn(0, 3, 100, 2) = 0");
            due("part(1, 0) = 9; second(0) = 0");
            due("its(0, 3) = 1; its(1, 3) = 2; worst(0, 0) = 9; worst(1, 0) = 18; bound(1, 0) = 0; ring(1, 0) = 1");
            due("ring(1, 1) = 4; its(1, 7) = 1");
            due("count(0) = 2; count(1) = 2; count(2) = 18; count(3) = 2; count(4) = 2; policy(0, 0) = 0; policy(0, 2) = 9");
            due("hit(0) = 3; alarm(2, 0) = -2; act(2, 0) = MIN");
        }
        edge("T3", "Of several answers that hold NONE goes first, then -2; IndexOutOfBoundsException ahead of NoSuchElementException.");
        // nothing there yet: what is asked is no such one, and there is none as well
        due("hit(4) = -1; hit(-1) = -1; pays(0) = -1; alarm(0, 3) = -1; alarm(99, -1) = -1; alarm(-1, 0) = -1");
        due("nearest(0) = -1; square(16, 1, 1) = -1; square(15, 1, 3) = -1");
        due("radiusFor(15, 0) = -1; radiusFor(0, 1) = -1; cover(16, 1) = -1; policy(0, 5) = OUT; policy(24, -1) = OUT");
        due("policy(MIN, MIN) = OUT");
        due("treaty(1, 1, 1) = 0; inWorst(0, -1) = -1; inWorst(1, 0) = -1; bound(0, 3) = -1; bound(0, -1) = -1");
        due("bound(1, 0) = -1; spread(1) = -1");
        due("ring(0, 5) = -1; ring(0, -1) = -1; ring(1, 0) = -1; relief(0, 2) = -1; relief(0, -1) = -1; relief(1, 0) = -1");
        due("along(0, 0, 0, 0, 1, 1) = -1; pays(1) = -1; pays(0) = -2");
        // one policy: it has no nearest one, and others are none
        due("write(0, 0, 1, 0) = 0; nearest(0) = -2; nearest(1) = -1; policy(0, 5) = NOSUCH; policy(1, 5) = OUT");
        due("along(0, 0, 0, 0, 1, 1) = -2; along(0, 0, 0, 0, 21, 1) = -1");
        due("along(0, 0, 0, 0, 1, 2) = -1; along(0, 0, 0, 0, 0, 1) = -1; along(0, 0, 300, 0, 1, 1) = -1");
        due("along(1, 0, 0, 0, 1, 1) = -1; fewest(1) = -1; radiusFor(16, 9) = -1");
        // full, and wrong numbers as well
        anew();
        fill(24);
        for (int t = 0; t < 6; t++) same("treaty", ask("treaty", 1, 1, 1), t);
        due("write(0, 0, 1, 0) = -2; write(300, 0, 1, 0) = -1; write(0, -1, 1, 0) = -1; write(0, 0, 0, 0) = -1");
        due("write(0, 0, 1, 4) = -1");
        due("treaty(1, 1, 1) = -2; treaty(16, 1, 1) = -1; treaty(1, 0, 1) = -1; treaty(1, 1, 0) = -1");
        edge("T3", "A call that is refused changes nothing.");
        due("write(0, 0, 9, 0) = 0; treaty(1, 1, 5) = 0; storm(1, 0, 0, 1, 0, 1) = 1; feed(0, 0, 0, 0, 0) = 20");
        for (int again = 0; again < 2; again++) {
            due("count(0) = 1; count(1) = 1; count(2) = 9; count(4) = 1; count(6) = 20; its(0, 2) = 5; its(0, 6) = 1");
            due("its(0, 7) = 1; policy(0, 0) = 0; policy(0, 1) = 0; hit(3) = 9");
            due("act(0, 0) = 0; act(1, 0) = MIN; alarm(1, 0) = -2; policy(0, 2) = 9; fault(0) = 0");
            due("write(5, 5, 100000, 0) = -1; move(0, 5, 300) = -1; move(0, 300, 5) = -1; change(0, 100000) = -1");
            due("lapse(1) = -1; treaty(1, 1, 10000000) = -1");
            due("limit(0, 10000000) = -1; limit(0, 0) = -1; text(21) = -2; text(-1) = -2; storm(301, 9, 9, 9, 9, 2) = -1");
            due("storm(2, 9, 9, 9, 9, 101) = -1");
        }
    }
}
