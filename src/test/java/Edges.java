/** Tests of sentences of the document, each on new desks: what it says, and the cases at its edges. */
abstract class Edges extends Bench {
    Quotes quotes;

    /** A test of what these words of the document say, under Terms (T1, T2, T3) or a promise (its number). */
    final void edge(String where, String words) {
        anew(where + ": " + words);
        if (!quotes.has(where, words)) complain("the document doesn't say so");
    }

    /** The same, by rows of calls with their answers; behind "anew" comes another desk. */
    final void holds(String where, String words, String... rows) {
        edge(where, words);
        for (String row : rows) {
            if (row.equals("anew")) anew();
            else due(row);
        }
    }

    final void fill(int policies) {
        for (int p = 0; p < policies; p++) same("write", ask("write", p, 0, p + 1, p % 4), p);
    }

    static String lines(String line, int n) {
        return line.repeat(n);
    }
}
