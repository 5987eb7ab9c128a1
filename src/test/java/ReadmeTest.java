import java.io.IOException;
import java.nio.file.Files;
import java.nio.file.Path;
import java.util.HashMap;
import java.util.Map;
import java.util.Set;
import java.util.TreeSet;
import java.util.regex.Matcher;
import java.util.regex.Pattern;
import java.util.stream.Collectors;
import java.util.stream.Stream;

/** What README.md says: its calls, each with its answer first in the comment behind it, the files and tests it names. */
public final class ReadmeTest extends Bench {
    private static final Pattern CALL = Pattern.compile("(?:int (\\w+) = )?desk\\.(\\w+)\\(([^)]*)\\);\\s*// (-?\\d+)\\b.*");
    private static final Pattern FILE = Pattern.compile("`([\\w./]+\\.java)`");
    private static final Pattern RUN = Pattern.compile("`java -cp build/own (\\w+)");
    private static final Path TESTS = Path.of("src/test/java");

    private final String page;
    private final Map<String, Integer> names = new HashMap<>();

    private ReadmeTest(String page) {
        this.page = page;
    }

    public static void main(String[] args) throws IOException {
        new ReadmeTest(Files.readString(Path.of("README.md"))).end();
    }

    @Override
    void all() {
        String[] blocks = page.split("```");
        for (int i = 1; i < blocks.length; i += 2) {
            for (String line : blocks[i].split("\n")) if (!line.isBlank() && !line.equals("java")) holds(line);
        }
        if (asked == 0) complain("no call on the page");
        Matcher files = FILE.matcher(page);
        while (files.find()) if (!isThere(files.group(1))) complain("there is no " + files.group(1));
        Set<String> tests = tests();
        Matcher runs = RUN.matcher(page);
        while (runs.find()) if (!isThere(runs.group(1) + ".java")) complain("there is no " + runs.group(1));
        for (String test : tests) if (!page.contains("`" + TESTS + "/" + test + "`")) complain("the page doesn't name " + test);
    }

    private void holds(String line) {
        if (line.equals("RiskDesk desk = new RiskDesk();")) {
            anew();
            return;
        }
        Matcher call = CALL.matcher(line);
        if (!call.matches()) {
            complain("not a call with its answer: " + line);
            return;
        }
        String[] parts = call.group(3).isBlank() ? new String[0] : call.group(3).split(",");
        int[] a = new int[parts.length];
        for (int i = 0; i < a.length; i++) a[i] = value(parts[i].trim());
        long got = ask(call.group(2), a);
        same(line, got, Long.parseLong(call.group(4)));
        if (call.group(1) != null) names.put(call.group(1), (int) got);
    }

    private int value(String part) {
        return names.containsKey(part) ? names.get(part) : Integer.decode(part);
    }

    private static boolean isThere(String file) {
        return Files.exists(Path.of(file)) || Files.exists(TESTS.resolve(file));
    }

    private static Set<String> tests() {
        try (Stream<Path> files = Files.list(TESTS)) {
            return files.map(file -> file.getFileName().toString()).filter(name -> name.endsWith("Test.java"))
                    .collect(Collectors.toCollection(TreeSet::new));
        } catch (IOException e) {
            throw new IllegalStateException(e);
        }
    }
}
