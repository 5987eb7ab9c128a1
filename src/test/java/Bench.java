/** One desk after another, and calls written as the document writes them, each with the answer that is due. */
abstract class Bench {
    static final int MIN = Integer.MIN_VALUE;
    static final int MAX = Integer.MAX_VALUE;
    /** What an object answers behind so many calls is free: no test leans on it. */
    static final int CALLS = 512;

    RiskDesk d;
    int asked;
    int wrong;
    private int calls;
    private String about = "";

    abstract void all();

    /** Ends the test with what it found. */
    final void end() {
        all();
        System.out.println(asked + " answers asked, " + wrong + " not as due");
        if (wrong != 0) System.exit(1);
    }

    final void anew() {
        d = new RiskDesk();
        calls = 0;
    }

    /** A new desk for what the words of the document say. */
    void anew(String words) {
        about = words;
        anew();
    }

    final void complain(String what) {
        wrong++;
        System.out.println(what + (about.isEmpty() ? "" : "   [" + about + "]"));
    }

    final void same(String what, long got, long want) {
        asked++;
        if (got != want) complain(what + " answered " + got + ", due is " + want);
    }

    /** The calls of a line, each with its answer: "worst(0, 1) = 2; count(0) = 3". */
    final void due(String line) {
        for (String call : line.split(";")) {
            if (call.isBlank()) continue;
            String[] sides = call.split("=");
            same(sides[0].trim(), ask(sides[0]), number(sides[1]));
        }
    }

    final long ask(String call) {
        int opens = call.indexOf('(');
        String inside = call.substring(opens + 1, call.indexOf(')')).trim();
        String[] parts = inside.isEmpty() ? new String[0] : inside.split(",");
        int[] a = new int[parts.length];
        for (int i = 0; i < a.length; i++) a[i] = (int) number(parts[i]);
        return ask(call.substring(0, opens).trim(), a);
    }

    final long ask(String name, int... a) {
        calls++;
        if (calls == CALLS + 1) complain("more than " + CALLS + " calls of one desk, at " + Calls.shown(name, a));
        return Calls.ofDesk(d, name, a);
    }

    static long number(String text) {
        switch (text.trim()) {
            case "MIN": return MIN;
            case "MAX": return MAX;
            case "OUT": return PlainDesk.OUT_OF_BOUNDS;
            case "NOSUCH": return PlainDesk.NO_SUCH_ELEMENT;
            default: return Long.parseLong(text.trim());
        }
    }

    // ---- texts ----

    /** Feeds a text, with blanks behind it up to a multiple of twenty. */
    final void feed(String text) {
        for (int i = 0; i < text.length(); i += 20) {
            int[] a = new int[5];
            for (int j = 0; j < 20; j++) a[j / 4] = a[j / 4] << 8 | (i + j < text.length() ? text.charAt(i + j) : ' ');
            ask("feed", a);
        }
    }

    /** Feeds a text and reads it: how many lines. */
    final int tell(String text) {
        feed(text);
        return (int) ask("text", text.length());
    }

    final void reads(String text, int lines) {
        same("[" + text + "]", tell(text), lines);
        same("[" + text + "] fault", ask("fault", 0), 0);
        same("[" + text + "] place", ask("fault", 1), -1);
    }

    final void faulty(String text, int what, int place) {
        same("[" + text + "]", tell(text), -1);
        same("[" + text + "] fault", ask("fault", 0), what);
        same("[" + text + "] place", ask("fault", 1), place);
    }
}
