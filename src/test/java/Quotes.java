import java.util.ArrayList;
import java.util.List;
import java.util.Map;
import java.util.TreeMap;

/** Which words of the document are quoted, and which aren't: W is What it is, T1, T2, T3 its Terms, a number a promise. */
final class Quotes {
    private final Map<String, String> sections = new TreeMap<>();
    private final Map<String, boolean[]> quoted = new TreeMap<>();

    /** Without the document (an empty one) no words are asked for, and all that are quoted pass. */
    Quotes(String document) {
        if (document.isEmpty()) return;
        String all = document.replace("```text", " ").replace("```", " ").replaceAll("\\s+", " ");
        put("W", all.substring(all.indexOf("## What it is") + 13, all.indexOf("## The public face")));
        for (int i = 1; i <= 3; i++) {
            String next = i < 3 ? "==== " + (i + 1) + ". " : "## Promise 1:";
            put("T" + i, all.substring(all.indexOf("==== " + i + ". ") + 8, all.indexOf(next)));
        }
        for (int i = 1; i <= 44; i++) {
            String next = i < 44 ? "## Promise " + (i + 1) + ":" : "## Not promised";
            String promise = all.substring(all.indexOf("## Promise " + i + ":"), all.indexOf(next));
            put("" + i, promise.substring(promise.indexOf("`: ") + 3));
        }
    }

    private void put(String where, String words) {
        sections.put(where, words.trim());
        quoted.put(where, new boolean[words.trim().length()]);
    }

    boolean has(String where, String words) {
        if (sections.isEmpty()) return true;
        String section = sections.getOrDefault(where, "");
        int at = section.indexOf(words);
        for (int i = at; at >= 0 && i < at + words.length(); i++) quoted.get(where)[i] = true;
        return at >= 0;
    }

    List<String> unquoted() {
        List<String> left = new ArrayList<>();
        for (String where : sections.keySet()) {
            StringBuilder words = new StringBuilder();
            for (int i = 0; i < sections.get(where).length(); i++) {
                words.append(quoted.get(where)[i] ? "|" : sections.get(where).charAt(i));
            }
            for (String part : words.toString().split("\\|+")) if (!part.isBlank()) left.add(where + ": " + part.trim());
        }
        return left;
    }
}
