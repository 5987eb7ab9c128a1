/** Each promise by calls whose answers are known: ordinary ones, the edges that the document names, refused ones. */
public final class PromisesTest extends Bench {
    public static void main(String[] args) {
        new PromisesTest().end();
    }

    @Override
    void all() {
        newObject();
        feedAndText();
        faults();
        acts();
        treaties();
        worsts();
        bounds();
        boundsOnOneRim();
        rings();
        lessOfAWorst();
        somePerils();
        oneMore();
        nearAndFar();
        along();
        storms();
        drawn();
        histories();
        refusedCallsChangeNothing();
        largest();
    }

    // ---- promise 1 ----

    private void newObject() {
        anew();
        due("count(0) = 0; count(1) = 0; count(2) = 0; count(3) = 0; count(4) = 0; count(5) = 0; count(6) = 0");
        due("count(7) = -1; count(-1) = -1; count(MIN) = -1; count(MAX) = -1");
        due("fault(0) = 0; fault(1) = -1; fault(2) = -1; fault(-1) = -1");
        due("tightest() = -2; hit(0) = -2; hit(4) = -1; hit(-1) = -1; pays(0) = -1; alarm(0, 0) = -2; act(0, 0) = MIN");
        same("NONE", RiskDesk.NONE, -1);
    }

    // ---- promises 2 and 3 ----

    private void feedAndText() {
        anew();
        for (int i = 1; i <= 45; i++) same("feed", d.feed(0x20202020, 0x0a0a0a0a, 0x20202020, 0x20202020, 0x20202020), 20 * i);
        due("feed(1, 1, 1, 1, 1) = -1; count(6) = 900; text(901) = -2; text(-1) = -2; text(MIN) = -2; text(MAX) = -2");
        due("count(6) = 900; text(900) = 0; count(6) = 0; text(1) = -2; text(0) = 0");
        same("a text", tell("policy 1 2 3 0;\n treaty 15 10 2 ;policy 1\n2 3 3;"), 3);
        due("fault(0) = 0; fault(1) = -1; count(0) = 2; count(1) = 1; count(2) = 6; count(3) = 1; count(4) = 0");
        due("policy(0, 0) = 1; policy(0, 1) = 2; policy(0, 2) = 3; policy(0, 3) = 0; policy(1, 3) = 3; policy(0, 4) = 1");
        due("its(0, 6) = 0; its(0, 7) = 1; alarm(0, 0) = 0; alarm(0, 1) = 0; alarm(0, 2) = 6; act(0, 0) = MIN");
        // a later text is all anew: acts, alarms and the storm go with it
        due("change(0, 9) = 3; storm(5, 0, 0, 9, 9, 3) = 2; hit(1) = 12");
        same("a text", tell("policy 299 299 99999 0;"), 1);
        due("count(0) = 1; count(1) = 0; count(4) = 0; alarm(0, 0) = -2; act(0, 0) = MIN; hit(0) = -2; policy(1, 0) = OUT");
        // one with a fault leaves all as it was, but for the tape
        due("change(0, 7) = 99999; storm(0, 299, 299, 299, 299, 1) = 1");
        same("a text", tell("policy 1 1 1 1;policy 1 1 1 4;"), -1);
        due("fault(0) = 2; fault(1) = 28; count(6) = 0; count(0) = 1; policy(0, 2) = 7; count(4) = 1; hit(0) = 1");
        // -2 is no text: the fault stays
        due("text(5) = -2; fault(0) = 2; fault(1) = 28");
        // only the first n bytes are the text, and none of the others is left
        feed("policy 1 1 1 1;policy 2 2 2 2;");
        due("text(15) = 1; count(6) = 0; count(0) = 1; fault(0) = 0");
        // bytes come the highest first, and those above 127 are none of the language
        anew();
        due("feed(-1, 0, 0, 0, 0) = 20; text(1) = -1; fault(0) = 1; fault(1) = 0");
        due("feed(MIN, 0, 0, 0, 0) = 20; text(0) = 0; feed(0, 0, 0, 0, 0) = 20; text(20) = -1; fault(0) = 1; fault(1) = 0");
        same("leading noughts", tell("policy 007 0000 0000000000000000099999 03;"), 1);
        due("policy(0, 0) = 7; policy(0, 2) = 99999; policy(0, 3) = 3");
    }

    // ---- promise 4 ----

    private void faults() {
        anew();
        faulty("polizy 1 1 1 1;", 1, 0);
        faulty("qolicy 1 1 1 1;", 1, 0);
        faulty("policyz 1 1 1 1;", 1, 0);
        faulty("policy1 1 1 1 1;", 1, 14);
        faulty("  Policy 1 1 1 1;", 1, 2);
        faulty("policy 1z 1 1 1;", 1, 8);
        faulty(";", 1, 0);
        faulty("1", 1, 0);
        faulty("policy 1 1 1 1;;", 1, 15);
        faulty("policy 1 1 1 1 1;", 1, 15);
        faulty("policy 1 1 1;", 1, 12);
        faulty("policy 1 1 1 1", 1, 14);
        faulty("policy 1 1 1 1  ", 1, 16);
        faulty("policy", 1, 6);
        faulty("policy ", 1, 7);
        faulty("policy 1 1 1 ", 1, 13);
        faulty("policy 1 policy", 1, 9);
        faulty("policy 1 other", 1, 9);
        faulty("policy -1 1 1 1;", 1, 7);
        faulty("policy 1,1 1 1;", 1, 8);
        faulty("policy\t1 1 1 1;", 1, 6);
        faulty("treaty 1 1 1 1;", 1, 13);
        faulty("policy 1 1 1 1;treat 1 1 1;", 1, 15);
        faulty("policy 300 1 1 1;", 2, 7);
        faulty("policy 1 300 1 1;", 2, 9);
        faulty("policy 1 1 0 1;", 2, 11);
        faulty("policy 1 1 100000 1;", 2, 11);
        faulty("policy 1 1 1 4;", 2, 13);
        faulty("policy 99999999999999999999999 1 1 4;", 2, 7);
        faulty("policy 4294967297 1 1 4;", 2, 7);
        faulty("treaty 0 1 1;", 2, 7);
        faulty("treaty 16 1 1;", 2, 7);
        faulty("treaty 1 0 1;", 2, 9);
        faulty("treaty 1 301 1;", 2, 9);
        faulty("treaty 1 1 0;", 2, 11);
        faulty("treaty 1 1 10000000;", 2, 11);
        // the first along the text, though a later one is of the lesser kind
        faulty("policy 300 x;", 2, 7);
        faulty("policy x 300;", 1, 7);
        String full = "policy 0 0 1 0;".repeat(24);
        faulty(full + "policy x", 2, 360);
        faulty(full + "policies", 1, 360);
        String six = "treaty 1 1 1;".repeat(6);
        faulty(six + "treaty", 2, 78);
        anew();
        same("all that a text may hold", tell(full + six), 30);
        due("count(0) = 24; count(1) = 6; count(3) = 6; alarm(0, 0) = 5; alarm(5, 0) = 0; alarm(6, 0) = -2");
        same("the greatest", tell("policy 299 299 99999 3;treaty 15 300 9999999;"), 2);
        same("the least", tell("policy 0 0 1 0;treaty 1 1 1;"), 2);
        due("fault(0) = 0; fault(1) = -1");
    }

    // ---- promises 5 to 8 and 11 ----

    private void acts() {
        anew();
        due("write(0, 0, 1, 0) = 0; write(299, 299, 99999, 3) = 1");
        due("write(-1, 0, 1, 0) = -1; write(0, 300, 1, 0) = -1; write(0, 0, 0, 0) = -1; write(0, 0, 1, -1) = -1");
        due("write(MIN, MAX, MIN, MAX) = -1; count(0) = 2; count(4) = 2");
        for (int i = 2; i < 24; i++) same("write", d.write(i, 0, i, 1), i);
        due("write(5, 5, 5, 1) = -2; write(5, 5, 5, 4) = -1; write(300, 5, 5, 1) = -1; count(0) = 24; count(4) = 24");
        due("lapse(7) = 7; lapse(3) = 3; lapse(3) = -1; lapse(24) = -1; lapse(-1) = -1; lapse(MIN) = -1; lapse(MAX) = -1");
        due("policy(3, 0) = OUT; policy(3, 9) = OUT; policy(-1, 0) = OUT; policy(24, 0) = OUT; policy(MAX, 0) = OUT");
        due("policy(35, 0) = OUT; policy(32, 0) = OUT; policy(2, 5) = NOSUCH; policy(2, -1) = NOSUCH; policy(2, MIN) = NOSUCH");
        due("write(2, 0, 50, 2) = 3; policy(3, 4) = 1; policy(2, 4) = 1; policy(4, 4) = 0; write(2, 0, 1, 1) = 7; policy(3, 4) = 2");
        due("move(0, 299, 299) = 178802; policy(0, 0) = 299; policy(0, 1) = 299; policy(0, 4) = 1; move(0, 299, 299) = 0");
        due("move(0, 300, 0) = -1; move(0, 0, -1) = -1; move(24, 0, 0) = -1; move(-1, 0, 0) = -1; move(0, MIN, MAX) = -1");
        due("change(0, 99999) = 1; change(0, 1) = 99999; change(0, 0) = -1; change(0, 100000) = -1; change(24, 1) = -1");
        due("change(-1, 1) = -1; policy(0, 2) = 1; policy(0, 3) = 0");
        due("count(5) = 21; lapse(2) = 2; count(5) = 21; lapse(3) = 50; count(5) = 21; lapse(7) = 1; count(5) = 20");
    }

    // ---- promises 9, 10, 12 ----

    private void treaties() {
        anew();
        due("treaty(0, 1, 1) = -1; treaty(16, 1, 1) = -1; treaty(1, 0, 1) = -1; treaty(1, 301, 1) = -1; treaty(1, 1, 0) = -1");
        due("treaty(1, 1, 10000000) = -1; treaty(MIN, MIN, MIN) = -1; treaty(MAX, MAX, MAX) = -1; count(1) = 0");
        due("write(0, 0, 10, 0) = 0; write(4, 0, 20, 1) = 1; write(100, 0, 30, 2) = 2");
        due("treaty(3, 2, 29) = 0; treaty(15, 300, 9999999) = 1; treaty(8, 1, 1) = 2; count(3) = 1; count(4) = 3");
        due("its(0, 0) = 3; its(0, 1) = 2; its(0, 2) = 29; its(0, 3) = 2; its(0, 4) = 30; its(0, 5) = 1; its(0, 6) = 3");
        due("its(0, 7) = 1; its(0, 8) = -1; its(0, -1) = -1; its(3, 0) = -1; its(-1, 0) = -1; its(MAX, 0) = -1");
        due("its(1, 3) = 3; its(1, 4) = 60; its(1, 5) = 0; its(1, 6) = -2; its(1, 7) = 0; its(2, 3) = 0; its(2, 4) = 0");
        due("treaty(1, 1, 1) = 3; treaty(1, 1, 9) = 4; treaty(1, 1, 10) = 5; treaty(1, 1, 1) = -2; treaty(0, 1, 1) = -1");
        due("its(3, 5) = 1; its(4, 5) = 1; its(5, 5) = 0; count(1) = 6; count(3) = 3");
        // no act, but the alarms are looked at
        due("limit(0, 30) = 29; its(0, 5) = 0; its(0, 6) = -2; its(0, 7) = 1; its(0, 2) = 30; count(4) = 3");
        due("change(2, 31) = 30; limit(0, 28) = 30; its(0, 6) = 4; its(0, 7) = 2; limit(0, 27) = 28; its(0, 7) = 2");
        due("limit(0, 0) = -1; limit(0, 10000000) = -1; limit(6, 1) = -1; limit(-1, 1) = -1; its(0, 2) = 27");
        due("limit(0, 9999999) = 27; limit(0, 1) = 9999999; its(0, 6) = 4; its(0, 7) = 3");
    }

    // ---- promises 13, 14, 16, 21 ----

    private void worsts() {
        anew();
        due("treaty(1, 5, 25) = 0; worst(0, 0) = 0; worst(0, 1) = 0; worst(0, 2) = 25; worst(0, 3) = MIN; worst(1, 0) = MIN");
        due("worst(-1, 0) = MIN; worst(0, -1) = MIN; inWorst(0, 0) = -2; inWorst(0, -1) = -1; inWorst(1, 0) = -1; spread(0) = -2");
        due("spread(1) = -1; spread(-1) = -1; tightest() = 0");
        // the rim belongs to the disc: 6 and 8 are 10 apart
        due("write(6, 8, 20, 0) = 0; write(0, 0, 10, 0) = 1; worst(0, 0) = 30; worst(0, 1) = 2; worst(0, 2) = -5; spread(0) = 100");
        due("inWorst(0, 0) = 0; inWorst(0, 1) = 1; inWorst(0, 2) = -2; inWorst(0, MAX) = -2; inWorst(0, MIN) = -1");
        due("move(0, 7, 8) = 1; worst(0, 0) = 20; spread(0) = 0; inWorst(0, 0) = 0; inWorst(0, 1) = -2");
        // of like sums the set that is least as bits
        due("change(0, 10) = 20; inWorst(0, 0) = 0; write(200, 200, 5, 0) = 2; write(200, 201, 5, 0) = 3; inWorst(0, 0) = 0");
        due("change(0, 9) = 10; inWorst(0, 0) = 1; lapse(1) = 10; inWorst(0, 0) = 2; inWorst(0, 1) = 3; spread(0) = 1");
        // policies 4 and 0: 17, against 5 alone: 17, which is more as bits
        anew();
        due("treaty(15, 1, 17) = 0; write(0, 0, 8, 0) = 0; write(50, 0, 17, 0) = 1; write(0, 2, 9, 3) = 2");
        due("worst(0, 0) = 17; worst(0, 1) = 1; inWorst(0, 0) = 1; its(0, 5) = 0");
        // one that lapses is of its treaties no more
        due("its(0, 3) = 3; lapse(1) = 17; its(0, 3) = 2; its(0, 4) = 17; worst(0, 1) = 2; inWorst(0, 0) = 0; inWorst(0, 1) = 2");
        due("write(0, 1, 1, 1) = 1; worst(0, 0) = 18; lapse(0) = 8; worst(0, 0) = 10; worst(0, 1) = 2; inWorst(0, 0) = 1; bound(0, 0) = 1");
        // three of which any two go together, but not all of them
        anew();
        due("write(100, 100, 1, 0) = 0; write(110, 100, 1, 0) = 1; write(105, 109, 1, 0) = 2; treaty(1, 5, 1) = 0");
        due("worst(0, 0) = 2; treaty(1, 6, 1) = 1; worst(1, 0) = 3");
        anew();
        due("write(0, 0, 6, 0) = 0; treaty(1, 1, 12) = 0; treaty(1, 1, 4) = 1; treaty(1, 2, 4) = 2; treaty(2, 1, 1) = 3; tightest() = 1");
        due("change(0, 1) = 6; limit(2, 3) = 4; tightest() = 2; limit(1, 9999999) = 4; limit(2, 9999998) = 3; limit(0, 9999999) = 12");
        due("tightest() = 2; limit(2, 9999999) = 9999998; tightest() = 0; lapse(0) = 1; tightest() = 0");
    }

    // ---- promise 15 ----

    private void bounds() {
        anew();
        due("treaty(3, 5, 99) = 0; bound(0, 0) = -2; bound(0, 1) = -2; bound(0, 2) = -2; bound(0, 3) = -1; bound(0, -1) = -1");
        due("bound(1, 0) = -1; bound(-1, 0) = -1; write(10, 10, 1, 0) = 0; bound(0, 0) = 0; bound(0, 1) = -2; bound(0, 2) = 0");
        due("write(15, 10, 1, 0) = 1; write(20, 10, 1, 0) = 2; bound(0, 0) = 1; bound(0, 1) = -2; bound(0, 2) = 0");
        // the disc about 1 holds 3 too, which the worst one then holds
        due("write(15, 5, 1, 1) = 3; write(10, 5, 9, 2) = 4; bound(0, 0) = 1; worst(0, 1) = 4; bound(0, 1) = -2");
        anew();
        due("treaty(1, 5, 99) = 0; write(0, 0, 1, 0) = 0; write(6, 8, 1, 0) = 1; bound(0, 0) = 0; bound(0, 1) = 1; bound(0, 2) = 0");
        // to the right of the way from (0, 0) to (0, 10), and to the left if the numbers are changed
        anew();
        due("treaty(1, 7, 99) = 0; write(0, 0, 5, 0) = 0; write(0, 10, 5, 0) = 1; write(8, 5, 7, 0) = 2");
        due("bound(0, 0) = 0; bound(0, 1) = 1; bound(0, 2) = 1");
        due("move(0, 0, 10) = 100; move(1, 0, 0) = 100; bound(0, 0) = 0; bound(0, 1) = 1; bound(0, 2) = 0");
        // at one place are no two on a rim: 0 and 1 stand together, 2 is the other one
        anew();
        due("treaty(1, 5, 99) = 0; write(0, 0, 1, 0) = 0; write(0, 0, 1, 0) = 1; write(8, 0, 1, 0) = 2");
        due("bound(0, 0) = 0; bound(0, 1) = 2; bound(0, 2) = 0; worst(0, 0) = 3");
    }

    /** All on the rim of the disc about 5, 5: an arc that goes on behind its two ends belongs to it as well. */
    private void boundsOnOneRim() {
        anew();
        due("treaty(1, 5, 99) = 0; write(2, 1, 1, 0) = 0; write(8, 1, 1, 0) = 1; write(5, 0, 1, 0) = 2; write(5, 10, 1, 0) = 3");
        due("worst(0, 1) = 4; bound(0, 0) = 0; bound(0, 1) = 1; bound(0, 2) = 0; about(0, 5, 5) = 4; about(0, 10, 5) = 4; about(0, 10, 6) = 3");
        due("move(0, 8, 1) = 36; move(1, 2, 1) = 36; worst(0, 1) = 4; bound(0, 0) = 0; bound(0, 1) = 1; bound(0, 2) = 1");
        due("move(2, 0, 5) = 50; worst(0, 1) = 4; move(2, 0, 4) = 1; worst(0, 1) = 3; move(2, 1, 2) = 5; worst(0, 1) = 4; bound(0, 1) = 1");
        due("move(3, 5, 5) = 25; bound(0, 0) = 3; bound(0, 1) = -2");
    }

    // ---- promise 17 ----

    private void rings() {
        anew();
        due("treaty(1, 300, 99) = 0; ring(0, 0) = -2; ring(0, 4) = -2; ring(0, 5) = -1; ring(0, -1) = -1; ring(1, 0) = -1");
        due("write(9, 9, 1, 1) = 0; write(3, 3, 1, 0) = 1; write(3, 3, 1, 0) = 2");
        due("ring(0, 0) = 0; ring(0, 1) = 1; ring(0, 2) = 1; ring(0, 3) = -2; ring(0, 4) = -2");
        due("write(4, 3, 1, 0) = 3; ring(0, 0) = 1; ring(0, 1) = 4; ring(0, 2) = 1; ring(0, 3) = 3; ring(0, 4) = -2");
        due("move(1, 4, 3) = 1; move(2, 4, 3) = 1; ring(0, 0) = 0; ring(0, 2) = 1; lapse(1) = 1; ring(0, 2) = 2; write(4, 3, 1, 0) = 1");
        due("move(1, 3, 3) = 1; move(2, 3, 3) = 1; change(0, 2) = 1; treaty(2, 1, 9) = 1; ring(1, 0) = 0; ring(1, 1) = 1; ring(1, 2) = 0; ring(1, 3) = -2");
        due("write(9, 9, 1, 1) = 4; ring(1, 2) = 0; ring(1, 4) = -2");
        // a right angle: two are enough
        due("lapse(2) = 1; write(3, 5, 1, 0) = 2; ring(0, 0) = 5; ring(0, 1) = 4; ring(0, 2) = 2; ring(0, 3) = 3; ring(0, 4) = -2");
        anew();
        due("treaty(1, 10, 99) = 0; write(5, 3, 1, 0) = 0; write(0, 0, 5, 0) = 1; write(10, 0, 5, 0) = 2; write(5, 8, 5, 0) = 3");
        due("ring(0, 0) = 7921; ring(0, 1) = 256; ring(0, 2) = 1; ring(0, 3) = 2; ring(0, 4) = 3");
        // of four on one rim with two diameters, the first ones
        anew();
        due("treaty(1, 300, 99) = 0; write(0, 5, 1, 0) = 0; write(5, 0, 1, 0) = 1; write(10, 5, 1, 0) = 2; write(5, 10, 1, 0) = 3");
        due("ring(0, 0) = 25; ring(0, 1) = 1; ring(0, 2) = 0; ring(0, 3) = 2; ring(0, 4) = -2");
        // all four lie on the rim; with 0 and 1 neither 2 nor 3 makes a triangle round the midst
        anew();
        due("treaty(1, 300, 99) = 0; write(65, 0, 1, 0) = 0; write(49, 2, 1, 0) = 1; write(26, 117, 1, 0) = 2; write(104, 117, 1, 0) = 3");
        due("ring(0, 0) = 4225; ring(0, 1) = 1; ring(0, 2) = 0; ring(0, 3) = 2; ring(0, 4) = 3");
        anew();
        due("treaty(1, 300, 99) = 0; write(0, 0, 1, 0) = 0; write(299, 299, 1, 0) = 1; write(299, 1, 1, 0) = 2; write(1, 299, 1, 0) = 3");
        due("ring(0, 0) = 89401; ring(0, 1) = 2");
    }

    // ---- promises 18, 19, 33, 34 ----

    private void lessOfAWorst() {
        anew();
        due("treaty(1, 5, 25) = 0; second(0) = 0; second(1) = -1; second(-1) = -1; part(0, 0) = -1; relief(0, 0) = -2");
        due("relief(0, 1) = -2; relief(0, 2) = -1; relief(0, -1) = -1; relief(1, 0) = -1; fewest(0) = 0; fewest(1) = -1; fewest(-1) = -1");
        due("write(0, 0, 10, 0) = 0; write(6, 8, 20, 0) = 1; write(100, 0, 25, 0) = 2; write(0, 0, 99, 1) = 3");
        due("part(0, 0) = 5; part(0, 1) = 5; part(0, 2) = 0; part(0, 3) = 0; part(0, 4) = -1; part(0, -1) = -1; part(1, 0) = -1");
        due("part(0, MIN) = -1; part(0, MAX) = -1; second(0) = 25; relief(0, 0) = 0; relief(0, 1) = 25; fewest(0) = 1");
        due("change(2, 26) = 25; fewest(0) = 2; relief(0, 0) = 0; relief(0, 1) = 26; write(200, 0, 26, 0) = 4; fewest(0) = -2");
        due("limit(0, 29) = 25; fewest(0) = 1; limit(0, 30) = 29; fewest(0) = 0; second(0) = 26");
        // one of WORST and one that is not
        anew();
        due("treaty(1, 5, 5) = 0; write(0, 0, 9, 0) = 0; write(100, 0, 8, 0) = 1; fewest(0) = 2; move(0, 100, 0) = 10000; move(1, 0, 0) = 10000");
        due("change(0, 7) = 9; fewest(0) = 2; change(0, 6) = 7; limit(0, 6) = 5; fewest(0) = 1; limit(0, 8) = 6; fewest(0) = 0");
        // what remains may go together in another disc
        anew();
        due("treaty(1, 5, 1) = 0; write(10, 0, 9, 0) = 0; write(2, 0, 5, 0) = 1; write(18, 0, 5, 0) = 2");
        due("worst(0, 0) = 14; inWorst(0, 1) = 1; second(0) = 5; part(0, 0) = 9; part(0, 1) = 0; relief(0, 0) = 0; relief(0, 1) = 5");
        due("fewest(0) = -2; limit(0, 5) = 1; fewest(0) = 1; limit(0, 4) = 5; fewest(0) = -2; limit(0, 9) = 4; fewest(0) = 1");
    }

    // ---- promises 20, 23 to 28 ----

    private void somePerils() {
        anew();
        due("chains(15, 10, 0) = 0; chains(15, 10, 1) = 0; chains(15, 10, 2) = 0; chains(15, 10, 3) = 0; chains(15, 10, 4) = -1");
        due("heaviest(15, 5) = 0; heaviestSet(15, 5) = 0; two(15, 5, 0) = 0; two(15, 5, 1) = 0; two(15, 5, 2) = -1; cover(15, 5) = 0");
        due("square(15, 5, 0) = 0; square(15, 5, 1) = -2; square(15, 5, 2) = -2; square(15, 5, 3) = -1; radiusFor(15, 1) = -2");
        due("write(0, 0, 5, 0) = 0; write(10, 0, 5, 1) = 1; write(20, 0, 7, 0) = 2; write(200, 0, 17, 0) = 3; write(250, 0, 3, 2) = 4");
        due("chains(15, 10, 0) = 3; chains(15, 10, 1) = 3; chains(15, 10, 2) = 17; chains(15, 10, 3) = 7; chains(15, 9, 0) = 5");
        due("chains(5, 10, 0) = 4; chains(5, 10, 3) = 8; chains(15, 50, 0) = 2; chains(15, 50, 3) = 24; chains(15, 0, 0) = 5");
        due("chains(8, 10, 0) = 0; chains(0, 10, 0) = -1; chains(16, 10, 0) = -1; chains(15, -1, 0) = -1; chains(15, 301, 0) = -1");
        due("chains(15, 300, 0) = 1; chains(15, 10, -1) = -1");
        due("heaviest(15, 10) = 17; heaviestSet(15, 10) = 7; heaviest(1, 10) = 17; heaviestSet(1, 10) = 8; heaviest(8, 10) = 0");
        due("heaviest(15, 0) = -1; heaviest(15, 301) = -1; heaviest(0, 1) = -1; heaviest(16, 1) = -1; heaviest(15, 300) = 37");
        due("heaviestSet(15, 0) = -1; heaviestSet(15, 301) = -1; heaviestSet(0, 1) = -1; heaviestSet(16, 1) = -1; heaviestSet(15, 300) = 31");
        due("two(15, 10, 0) = 34; two(15, 10, 1) = 15; two(15, 5, 0) = 29; two(15, 5, 1) = 14; two(15, 300, 1) = 31; two(15, 1, 1) = 12");
        due("two(0, 5, 0) = -1; two(16, 5, 0) = -1; two(15, 0, 0) = -1; two(15, 301, 0) = -1; two(15, 5, -1) = -1");
        due("cover(15, 10) = 3; cover(15, 9) = -2; cover(15, 25) = 2; cover(15, 124) = 2; cover(15, 125) = 1; cover(2, 1) = 1");
        due("cover(8, 1) = 0; cover(0, 1) = -1; cover(16, 1) = -1; cover(15, 0) = -1; cover(15, 301) = -1");
        due("square(15, 10, 0) = 17; square(15, 10, 1) = 200; square(15, 20, 0) = 17; square(15, 20, 1) = 0; square(15, 20, 2) = 0");
        due("square(15, 50, 0) = 20; square(15, 50, 1) = 200; square(15, 299, 0) = 37; square(15, 0, 0) = 17; square(15, 300, 0) = -1");
        due("square(15, -1, 0) = -1; square(0, 1, 0) = -1; square(16, 1, 0) = -1; square(15, 1, -1) = -1; square(2, 0, 1) = 10");
        due("radiusFor(15, 17) = 1; radiusFor(15, 18) = 25; radiusFor(15, 20) = 25; radiusFor(15, 21) = 90; radiusFor(15, 37) = 125; radiusFor(15, 38) = -2");
        due("radiusFor(15, 0) = -1; radiusFor(15, MIN) = -1; radiusFor(15, MAX) = -2; radiusFor(0, 1) = -1; radiusFor(16, 1) = -1");
        // chains of like sums: that with the least policy
        anew();
        due("write(9, 9, 4, 0) = 0; write(50, 50, 8, 0) = 1; write(70, 70, 8, 0) = 2; chains(15, 1, 2) = 8; chains(15, 1, 3) = 2");
        // two: of like ones the least bits; one disc of all of them
        due("two(15, 1, 0) = 16; two(15, 1, 1) = 6; change(0, 8) = 4; two(15, 1, 1) = 3; two(15, 90, 1) = 7");
        // squares: a corner at the X of one and the Y of another one
        anew();
        due("write(0, 9, 1, 0) = 0; write(9, 0, 1, 0) = 1; write(9, 9, 1, 1) = 2");
        due("square(1, 9, 0) = 2; square(1, 9, 1) = 0; square(1, 9, 2) = 0; square(1, 8, 0) = 1; square(1, 8, 1) = 0; square(1, 8, 2) = 9");
        due("square(15, 0, 1) = 0; square(15, 0, 2) = 9");
        // of like sums the least X, of these the least Y; only policies of these perils lend their X and Y
        anew();
        due("write(50, 20, 4, 0) = 0; write(10, 80, 4, 0) = 1; write(10, 30, 4, 0) = 2; write(5, 5, 3, 0) = 3; write(9, 29, 9, 1) = 4");
        due("square(1, 1, 0) = 4; square(1, 1, 1) = 10; square(1, 1, 2) = 30; square(1, 44, 0) = 8; square(1, 44, 1) = 10; square(1, 44, 2) = 5");
        due("square(1, 50, 0) = 11; square(1, 50, 1) = 5; square(1, 50, 2) = 5; square(3, 1, 0) = 13; square(3, 1, 1) = 9; square(3, 1, 2) = 29");
        due("square(2, 299, 1) = 9; square(2, 299, 2) = 29; square(4, 299, 1) = -2; square(4, 299, 0) = 0");
        // cover: three discs, each of many
        anew();
        due("write(0, 0, 1, 0) = 0; write(2, 0, 1, 0) = 1; write(100, 0, 1, 0) = 2; write(102, 0, 1, 0) = 3; write(200, 0, 1, 0) = 4");
        due("write(202, 0, 1, 0) = 5; cover(1, 1) = 3; write(204, 0, 1, 0) = 6; cover(1, 1) = -2; cover(1, 2) = 3");
    }

    // ---- promises 29 to 32 ----

    private void oneMore() {
        anew();
        due("most(0, 0, 0) = 99999; most(299, 299, 3) = 99999; most(300, 0, 0) = -1; most(0, -1, 0) = -1; most(0, 0, 4) = -1; most(0, 0, -1) = -1");
        due("places(1, 0) = 100; places(99999, 3) = 100; places(0, 0) = -1; places(100000, 0) = -1; places(1, 4) = -1; places(1, -1) = -1");
        due("treaty(1, 5, 25) = 0; write(0, 0, 10, 0) = 0; write(6, 8, 12, 0) = 1; worst(0, 0) = 22");
        due("ifWritten(0, 3, 4, 7, 0) = 29; ifWritten(0, 3, 4, 7, 1) = 22; ifWritten(0, 12, 16, 7, 0) = 22; ifWritten(0, 12, 16, 11, 0) = 23");
        due("ifWritten(0, 299, 299, 99999, 0) = 99999; ifWritten(1, 0, 0, 1, 0) = -1; ifWritten(-1, 0, 0, 1, 0) = -1; ifWritten(0, 300, 0, 1, 0) = -1");
        due("ifWritten(0, 0, -1, 1, 0) = -1; ifWritten(0, 0, 0, 0, 0) = -1; ifWritten(0, 0, 0, 100000, 0) = -1; ifWritten(0, 0, 0, 1, 4) = -1");
        due("about(0, 3, 4) = 22; about(0, 12, 16) = 12; about(0, 12, 17) = 0; about(0, 0, 10) = 12; about(0, 0, 11) = 12; about(0, 0, 0) = 22");
        due("about(0, 300, 0) = -1; about(0, 0, -1) = -1; about(1, 0, 0) = -1; about(-1, 0, 0) = -1");
        due("most(3, 4, 0) = 3; most(12, 16, 0) = 13; most(100, 100, 0) = 25; most(3, 4, 1) = 99999");
        due("places(25, 0) = 99; places(3, 0) = 100; places(4, 0) = 99; places(26, 0) = 0; places(26, 1) = 100");
        due("treaty(3, 300, 30) = 1; most(3, 4, 0) = 3; most(100, 100, 0) = 8; most(100, 100, 1) = 8; most(3, 4, 1) = 8; places(9, 1) = 0; places(8, 1) = 100");
        due("limit(0, 22) = 25; most(3, 4, 0) = 0; limit(0, 21) = 22; most(200, 200, 0) = 0; places(1, 0) = 0; places(1, 1) = 100");
        // the places are 0, 30, .. 270: one corner is out of each, and no others
        anew();
        due("treaty(1, 1, 10) = 0; write(0, 0, 10, 0) = 0; write(270, 270, 10, 0) = 1; write(30, 240, 10, 0) = 2; write(299, 299, 10, 0) = 3; places(1, 0) = 97");
        due("move(0, 2, 0) = 4; places(1, 0) = 97; move(0, 3, 0) = 1; places(1, 0) = 98; move(1, 268, 270) = 4; places(1, 0) = 98; move(1, 267, 270) = 1");
        due("places(1, 0) = 99; move(2, 60, 0) = 58500; places(1, 0) = 99; move(2, 60, 1) = 1; places(1, 0) = 99; move(2, 60, 3) = 4; places(1, 0) = 100");
        // a full desk is asked alike
        anew();
        due("treaty(1, 1, 99) = 0");
        for (int i = 0; i < 24; i++) same("write", d.write(9, 9, 1, 0), i);
        due("ifWritten(0, 9, 9, 5, 0) = 29; most(9, 9, 0) = 75; worst(0, 0) = 24");
        // with the place in a disc of two that bound it on both sides
        anew();
        due("treaty(1, 5, 99) = 0; write(10, 10, 3, 0) = 0; write(20, 10, 4, 0) = 1; about(0, 15, 15) = 7; about(0, 15, 16) = 4; about(0, 15, 5) = 7");
    }

    // ---- promises 22, 35, 36 ----

    private void nearAndFar() {
        anew();
        due("nearest(0) = -1; couples(0) = 0; together(0, 1, 5) = -1; write(0, 0, 1, 0) = 0; nearest(0) = -2; couples(300) = 0");
        due("write(6, 8, 1, 1) = 1; write(0, 10, 1, 2) = 2; write(0, 0, 1, 3) = 3");
        due("together(0, 1, 5) = 1; together(1, 0, 5) = 1; together(0, 1, 4) = 0; move(1, 0, 11) = 45; together(0, 1, 5) = 0; move(1, 6, 8) = 45; together(0, 3, 1) = 1; together(0, 0, 5) = -1");
        due("together(0, 4, 5) = -1; together(-1, 0, 5) = -1; together(0, 1, 0) = -1; together(0, 1, 301) = -1; together(0, 1, 300) = 1");
        due("nearest(0) = 3; nearest(3) = 0; nearest(2) = 1; nearest(1) = 2; lapse(3) = 1; nearest(0) = 1; nearest(3) = -1; nearest(24) = -1");
        due("nearest(-1) = -1; nearest(MIN) = -1; couples(9) = 1; couples(10) = 3; couples(6) = 0; couples(7) = 1; couples(0) = 0");
        due("write(0, 0, 1, 0) = 3; couples(0) = 1; couples(10) = 6; couples(-1) = -1; couples(301) = -1; couples(300) = 6");
    }

    // ---- promise 37 ----

    private void along() {
        anew();
        due("treaty(1, 5, 25) = 0; along(0, 0, 0, 0, 1, 0) = -1; write(0, 0, 10, 0) = 0; write(100, 0, 20, 0) = 1; write(50, 0, 12, 1) = 2");
        due("along(0, 0, 100, 0, 10, 0) = 30; along(0, 0, 100, 0, 10, 1) = 9; along(0, 0, 100, 0, 1, 1) = 1; along(0, 0, 80, 0, 20, 1) = -2");
        due("along(0, 0, 80, 0, 20, 0) = 20; along(0, 2, 100, 0, 20, 0) = 20; along(0, 2, 100, 0, 20, 1) = -2; along(0, 1, 0, 0, 10, 1) = 9");
        due("along(0, 0, 200, 0, 20, 1) = 9; along(0, 0, 200, 0, 2, 1) = 1; along(0, 0, 200, 0, 1, 1) = -2; along(0, 0, 0, 0, 1, 0) = 20");
        // downwards: of 100 by 3 the places are 0, 33, 66, 100, back from 100 they are 100, 66, 33, 0
        due("move(1, 76, 0) = 576; along(0, 0, 100, 0, 3, 1) = 2; move(1, 77, 0) = 1; along(0, 0, 100, 0, 3, 1) = -2");
        due("move(0, 100, 0) = 10000; move(1, 56, 0) = 441; along(0, 0, 0, 0, 3, 1) = 1; move(1, 77, 0) = 441; along(0, 0, 0, 0, 3, 1) = -2");
        due("move(0, 0, 0) = 10000; move(1, 100, 0) = 529");
        due("along(1, 0, 0, 0, 1, 0) = -1; along(-1, 0, 0, 0, 1, 0) = -1; along(0, 3, 0, 0, 1, 0) = -1; along(0, -1, 0, 0, 1, 0) = -1");
        due("along(0, 0, 300, 0, 1, 0) = -1; along(0, 0, 0, -1, 1, 0) = -1; along(0, 0, 0, 0, 0, 0) = -1; along(0, 0, 0, 0, 21, 0) = -1");
        due("along(0, 0, 0, 0, 1, 2) = -1; along(0, 0, 0, 0, 1, -1) = -1; limit(0, 19) = 25; along(0, 0, 80, 0, 20, 1) = 0; along(0, 2, 80, 0, 20, 1) = 0");
        // passed at the first place alone; the others alone as much as the limit is not passed
        due("move(0, 90, 0) = 8100; its(0, 5) = 1; along(0, 0, 0, 0, 1, 1) = 0; along(0, 0, 0, 0, 1, 0) = 30; limit(0, 30) = 19; along(0, 0, 0, 0, 9, 1) = -2");
        due("limit(0, 20) = 30; move(0, 0, 0) = 8100; along(0, 0, 50, 0, 9, 1) = -2; limit(0, 19) = 20");
        due("policy(0, 0) = 0; count(4) = 12; its(0, 7) = 3; worst(0, 0) = 20");
    }

    // ---- promises 38 to 40 ----

    private void storms() {
        anew();
        due("treaty(1, 5, 25) = 0; pays(0) = -2; pays(1) = -1; pays(-1) = -1; hit(0) = -2; hit(3) = -2; hit(4) = -1");
        due("storm(-1, 0, 0, 0, 0, 1) = -1; storm(301, 0, 0, 0, 0, 1) = -1; storm(1, 300, 0, 0, 0, 1) = -1; storm(1, 0, -1, 0, 0, 1) = -1");
        due("storm(1, 0, 0, 300, 0, 1) = -1; storm(1, 0, 0, 0, 300, 1) = -1; storm(1, 0, 0, 0, 0, 0) = -1; storm(1, 0, 0, 0, 0, 101) = -1; hit(0) = -2");
        due("storm(5, 0, 0, 0, 0, 1) = 0; hit(0) = 0; hit(1) = 0; hit(2) = 0; hit(3) = 0; pays(0) = 0");
        due("write(3, 4, 10, 0) = 0; write(100, 50, 20, 1) = 1; write(103, 54, 30, 0) = 2; write(200, 0, 7, 0) = 3; hit(0) = 1; hit(1) = 10");
        due("storm(5, 0, 0, 100, 50, 1) = 3; hit(0) = 7; hit(1) = 60; hit(2) = 1; hit(3) = 50; pays(0) = 15");
        // a refused one leaves what was told
        due("storm(5, 0, 0, 100, 50, 0) = -1; storm(5, 300, 0, 100, 50, 1) = -1; hit(1) = 60");
        // it is asked of by policies as they are
        due("change(2, 35) = 30; hit(1) = 65; pays(0) = 20; move(0, 3, 5) = 1; hit(0) = 6; hit(1) = 55; pays(0) = 10; lapse(2) = 35; pays(0) = 0");
        due("storm(0, 200, 0, 200, 0, 100) = 1; hit(2) = 0; storm(0, 0, 0, 299, 0, 100) = 1; move(3, 199, 0) = 1; storm(0, 0, 0, 299, 0, 100) = 0; storm(300, 0, 0, 299, 299, 100) = 3");
        // downwards: to 100 in 3 steps 33 and 66; from 100 to 0 in 3 they are 66 and 33: floor of -33.3 is -34
        anew();
        due("write(33, 0, 1, 0) = 0; write(66, 0, 2, 0) = 1; write(67, 0, 4, 0) = 2; storm(0, 0, 0, 100, 0, 3) = 2; hit(0) = 3; hit(2) = 2");
        due("storm(0, 100, 0, 0, 0, 3) = 2; hit(0) = 3; hit(2) = 1; hit(3) = 2; storm(0, 67, 0, 0, 0, 100) = 3");
        due("move(0, 33, 200) = 40000; storm(0, 33, 200, 33, 100, 2) = 1; storm(0, 33, 0, 33, 299, 1) = 0; storm(0, 33, 101, 33, 299, 2) = 1");
        due("move(0, 33, 0) = 40000");
        // the first place of like sums
        due("storm(1, 66, 0, 67, 0, 1) = 2; hit(2) = 0; hit(3) = 6");
    }

    // ---- promise 41 ----

    private void drawn() {
        anew();
        // from 0 on: 12345, 1406932606, 654583775, 1449466924, ...: by 65536, modulo 300: 0, 168, 88, 217, ...
        due("treaty(1, 5, 5) = 0; drawn(0, 0, 1, 0) = 0; drawn(0, 0, 1, 1) = 0; drawn(0, 0, 1, 2) = 0; drawn(0, 0, 1, 3) = 0");
        due("write(0, 168, 5, 0) = 0; drawn(0, 0, 1, 0) = 5; drawn(0, 0, 1, 3) = 5; drawn(0, 0, 1, 2) = 0; move(0, 3, 172) = 25");
        due("drawn(0, 0, 1, 0) = 5; move(0, 3, 173) = 1; drawn(0, 0, 1, 0) = 0; write(88, 217, 6, 0) = 1; drawn(0, 0, 2, 0) = 6");
        due("drawn(0, 0, 2, 1) = 1; drawn(0, 0, 2, 2) = 1; drawn(0, 0, 2, 3) = 6; move(0, 0, 168) = 34; drawn(0, 0, 2, 3) = 11");
        due("change(0, 6) = 5; drawn(0, 0, 2, 1) = 0; drawn(0, 0, 2, 2) = 2; drawn(0, 0, 1, 2) = 1");
        due("drawn(0, -1, 1, 0) = -1; drawn(0, 0, 0, 0) = -1; drawn(0, 0, 101, 0) = -1; drawn(0, 0, 1, 4) = -1; drawn(0, 0, 1, -1) = -1");
        due("drawn(1, 0, 1, 0) = -1; drawn(-1, 0, 1, 0) = -1; drawn(0, MIN, 1, 0) = -1; treaty(15, 300, 9999999) = 1");
        due("write(150, 150, 99999, 3) = 2; drawn(1, MAX, 100, 3) = 10001070; drawn(1, MAX, 100, 0) = 100011; drawn(1, MAX, 100, 1) = 0");
    }

    // ---- promises 42 and 43 ----

    private void histories() {
        anew();
        due("alarm(0, 0) = -2; alarm(-1, 0) = -1; alarm(0, 3) = -1; alarm(0, -1) = -1; act(0, 0) = MIN; act(-1, 0) = MIN; alarm(30, 3) = -1");
        due("treaty(1, 5, 10) = 0; treaty(3, 5, 10) = 1; write(0, 0, 11, 0) = 0; act(0, 0) = 0; act(0, 1) = 0; act(0, 2) = 11; act(1, 0) = MIN");
        due("alarm(0, 0) = 1; alarm(0, 1) = 1; alarm(0, 2) = 11; alarm(1, 0) = 0; alarm(1, 1) = 1; alarm(2, 0) = -2; act(0, 3) = MIN; act(0, -1) = MIN");
        due("write(99, 0, 3, 1) = 1; move(1, 10, 0) = 7921; act(0, 0) = 1; act(0, 1) = 1; act(0, 2) = 0; alarm(2, 0) = -2; its(1, 6) = 1");
        due("change(0, 8) = 11; act(0, 0) = 2; act(0, 2) = -3; its(0, 6) = -2; its(1, 6) = 1; its(1, 7) = 1; lapse(1) = 3; act(0, 0) = 3; act(0, 2) = -3");
        due("its(1, 6) = -2; alarm(0, 0) = 1; write(0, 0, 4, 1) = 1; alarm(0, 0) = 1; alarm(0, 1) = 6; alarm(0, 2) = 12; its(1, 7) = 2; its(0, 7) = 1");
        // thirty are kept
        anew();
        due("treaty(1, 1, 10) = 0; write(0, 0, 1, 0) = 0");
        for (int i = 0; i < 40; i++) due("change(0, 11) = 1; change(0, 1) = 11");
        due("count(4) = 81; act(29, 2) = 10; act(28, 2) = -10; act(30, 0) = MIN; act(MAX, 0) = MIN; alarm(0, 1) = 80; alarm(29, 1) = 22; alarm(30, 0) = -2");
        due("alarm(MAX, 0) = -2; alarm(MIN, 0) = -1; its(0, 7) = 40; its(0, 6) = -2; alarm(29, 2) = 11");
        // a text lets all go, but for those it brings; its alarms are of act 0
        same("a text", tell("treaty 1 5 4;treaty 1 5 5;policy 0 0 5 0;"), 3);
        due("count(4) = 0; act(0, 0) = MIN; alarm(0, 0) = 0; alarm(0, 1) = 0; alarm(0, 2) = 5; alarm(1, 0) = -2; its(0, 7) = 1; its(1, 7) = 0");
        due("treaty(1, 5, 1) = 2; its(2, 6) = 0; alarm(0, 0) = 2; alarm(1, 0) = 0; change(0, 6) = 5; its(1, 6) = 1; its(0, 6) = 0; alarm(0, 0) = 1");
    }

    // ---- section 3 ----

    private void refusedCallsChangeNothing() {
        anew();
        same("a text", tell("policy 0 0 10 0;policy 6 8 20 0;treaty 1 5 25;"), 3);
        due("storm(5, 0, 0, 9, 9, 3) = 2; change(0, 11) = 10; feed(1, 2, 3, 4, 5) = 20");
        for (int again = 0; again < 2; again++) {
            due("count(0) = 2; count(1) = 1; count(2) = 31; count(3) = 1; count(4) = 1; count(5) = 2; count(6) = 20");
            due("policy(0, 0) = 0; policy(0, 1) = 0; policy(0, 2) = 11; policy(0, 3) = 0; its(0, 0) = 1; its(0, 1) = 5; its(0, 2) = 25");
            due("its(0, 6) = 0; its(0, 7) = 1; alarm(0, 2) = 30; alarm(1, 0) = -2; act(0, 2) = 1; act(1, 0) = MIN; hit(0) = 3; pays(0) = 6");
            due("worst(0, 0) = 31; bound(0, 1) = 1; ring(0, 0) = 25; fault(0) = 0; fault(1) = -1");
            due("write(0, 0, 1, 4) = -1; move(0, 0, 300) = -1; change(0, 0) = -1; lapse(2) = -1; treaty(1, 0, 1) = -1; limit(0, 0) = -1");
            due("limit(1, 5) = -1; storm(5, 0, 0, 9, 9, 101) = -1; text(21) = -2; text(-1) = -2; move(2, 1, 1) = -1; change(2, 5) = -1");
            due("heaviest(15, 3) = 20; two(15, 9, 0) = 31; cover(15, 1) = 2; radiusFor(15, 31) = 5; square(15, 8, 0) = 31; along(0, 0, 99, 99, 20, 0) = 31");
            due("ifWritten(0, 3, 3, 5, 0) = 36; places(1, 0) = 0; drawn(0, 7, 100, 3) = 0; relief(0, 0) = 1; fewest(0) = 1; second(0) = 0");
        }
    }

    // ---- the most that there may be ----

    private void largest() {
        anew();
        for (int i = 0; i < 24; i++) same("write", d.write(i % 5 * 70, i / 5 * 70, 99999, i % 4), i);
        for (int i = 0; i < 6; i++) same("treaty", d.treaty(15, 300, 9999999), i);
        due("count(2) = 2399976; worst(0, 0) = 2399976; worst(0, 1) = 24; worst(0, 2) = 7600023; heaviestSet(15, 300) = 16777215");
        due("inWorst(0, 23) = 23; inWorst(0, 24) = -2; drawn(0, 5, 100, 0) = 2399976; ifWritten(5, 299, 299, 99999, 3) = 2499975");
        due("most(150, 150, 0) = 99999; spread(0) = 156800; couples(300) = 259; limit(5, 2399975) = 9999999; its(5, 5) = 1; its(5, 6) = 24");
        due("fewest(5) = 1; relief(5, 0) = 0; relief(5, 1) = 2299977; tightest() = 5; pays(5) = -2; storm(300, 0, 0, 299, 299, 100) = 24");
        due("pays(5) = 1; hit(0) = 16777215; hit(1) = 2399976; lapse(23) = 99999; its(5, 6) = -2");
    }
}
