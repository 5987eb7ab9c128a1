import java.util.ArrayList;
import java.util.List;
import java.util.Random;

/** Runs of calls drawn from seeds, each answered by a RiskDesk and by a PlainDesk: they have to agree. */
public final class OracleTest {
    private static final int CALLS = 500;
    private static final int[] EXTREMES = {-1, -2, Integer.MIN_VALUE, Integer.MAX_VALUE, 300, 301, 24, 31, 32, 64, 16, 0};

    private final Random random;
    private final RiskDesk desk = new RiskDesk();
    private final PlainDesk plain = new PlainDesk();
    private final List<String> told = new ArrayList<>();
    private final int style;
    private final int most;
    private final int step;
    private final int reach;

    private OracleTest(long seed) {
        random = new Random(seed);
        style = random.nextInt(4);
        most = new int[] {4, 7, 9, 12, 24}[random.nextInt(5)];
        step = new int[] {1, 2, 3, 5, 13}[random.nextInt(5)];
        reach = most == 24 ? 300 : new int[] {3, 6, 11, 21}[random.nextInt(4)];
    }

    public static void main(String[] args) {
        int runs = args.length > 0 ? Integer.parseInt(args[0]) : 400;
        int from = args.length > 1 ? Integer.parseInt(args[1]) : 0;
        int[] asked = new int[Calls.NAMES.length];
        for (int seed = from; seed < from + runs; seed++) {
            if (!new OracleTest(seed).run(asked)) {
                System.out.println("the run of seed " + seed + " goes wrong");
                System.exit(1);
            }
        }
        for (int i = 0; i < asked.length; i++) {
            if (asked[i] == 0) {
                System.out.println(Calls.NAMES[i] + " was never compared");
                System.exit(1);
            }
        }
        System.out.println("all answers of " + runs + " runs agree");
    }

    private boolean run(int[] asked) {
        int calls = 0;
        while (calls < CALLS) {
            if (random.nextInt(60) == 0 || calls == 0 && random.nextInt(3) > 0) {
                int used = told.size();
                if (!tellText()) return false;
                calls += told.size() - used;
                continue;
            }
            int which = random.nextInt(5) < 2 ? 3 + random.nextInt(6) : random.nextInt(Calls.NAMES.length);
            String name = Calls.NAMES[which];
            if (name.equals("write") && plain.count(0) >= most && random.nextInt(12) > 0) continue;
            if (name.equals("treaty") && random.nextInt(4) > 0) continue;
            if (dear(name) && random.nextInt(4) > 0) continue;
            if (name.equals("feed") || name.equals("text")) continue;
            int[] a = arguments(name);
            if (random.nextInt(12) == 0 && a.length > 0) a[random.nextInt(a.length)] = extreme();
            Boolean agreed = agree(name, a);
            if (agreed == null) continue;
            if (!agreed) return false;
            asked[which]++;
            calls++;
        }
        asked[0]++;
        asked[1]++;
        return true;
    }

    private static boolean dear(String name) {
        return name.equals("places") || name.equals("radiusFor") || name.equals("two") || name.equals("cover")
                || name.equals("square") || name.equals("fewest");
    }

    /** Null: the plain desk does not tell. */
    private Boolean agree(String name, int... a) {
        long due = Calls.ofPlain(plain, name, a);
        if (due == PlainDesk.UNTOLD) return null;
        told.add(Calls.shown(name, a) + " = " + due);
        long got = Calls.ofDesk(desk, name, a);
        if (got == due) return true;
        for (String line : told) System.out.println(line);
        System.out.println("answered " + got);
        return false;
    }

    private int extreme() {
        return EXTREMES[random.nextInt(EXTREMES.length)];
    }

    private int place() {
        if (reach == 300) return random.nextInt(300);
        if (style == 3) return random.nextInt(2) * 150 + random.nextInt(reach) * step / 2;
        return 20 + random.nextInt(reach) * step;
    }

    private int sum() {
        return style == 0 ? 1 + random.nextInt(2) : style == 1 ? 10 * (1 + random.nextInt(4)) : 1 + random.nextInt(99999);
    }

    private int perils() {
        return random.nextInt(3) == 0 ? 15 : 1 + random.nextInt(15);
    }

    private int radius() {
        int usual = step * (1 + random.nextInt(reach == 300 ? 60 : reach));
        return random.nextInt(20) == 0 ? 1 + random.nextInt(300) : Math.min(300, usual);
    }

    private int limit() {
        return style == 0 ? 1 + random.nextInt(8) : style == 1 ? 10 + random.nextInt(100) : 1 + random.nextInt(300000);
    }

    private int policy() {
        return random.nextInt(Math.min(24, most + 1));
    }

    private int treaty() {
        return random.nextInt(8) == 0 ? random.nextInt(6) : random.nextInt(Math.max(1, plain.count(1)));
    }

    private int what(int most) {
        return random.nextInt(most + 1);
    }

    private int[] arguments(String name) {
        switch (name) {
            case "write": return new int[] {place(), place(), sum(), random.nextInt(4)};
            case "move": return new int[] {policy(), place(), place()};
            case "change": return new int[] {policy(), sum()};
            case "lapse": return new int[] {random.nextInt(3) == 0 ? policy() : 24};
            case "treaty": return new int[] {perils(), radius(), limit()};
            case "limit": return new int[] {treaty(), limit()};
            case "policy": return new int[] {policy(), what(5)};
            case "its": return new int[] {treaty(), what(8)};
            case "worst": return new int[] {treaty(), what(3)};
            case "inWorst": return new int[] {treaty(), what(6)};
            case "bound": return new int[] {treaty(), what(3)};
            case "ring": return new int[] {treaty(), what(5)};
            case "part": return new int[] {treaty(), policy()};
            case "chains": return new int[] {perils(), random.nextInt(step * reach / 2 + 2), what(4)};
            case "together": return new int[] {policy(), policy(), radius()};
            case "heaviest": case "heaviestSet": case "cover": return new int[] {perils(), radius()};
            case "two": return new int[] {perils(), radius(), what(2)};
            case "square": return new int[] {perils(), Math.min(299, radius() - 1), what(3)};
            case "radiusFor": return new int[] {perils(), limit()};
            case "ifWritten": return new int[] {treaty(), place(), place(), sum(), random.nextInt(4)};
            case "about": return new int[] {treaty(), place(), place()};
            case "most": return new int[] {place(), place(), random.nextInt(4)};
            case "places": return new int[] {sum(), random.nextInt(4)};
            case "relief": return new int[] {treaty(), what(2)};
            case "spread": case "second": case "fewest": case "pays": return new int[] {treaty()};
            case "nearest": return new int[] {policy()};
            case "couples": return new int[] {random.nextInt(step * reach / 2 + 2)};
            case "along": return new int[] {treaty(), policy(), place(), place(), 1 + random.nextInt(20), what(1)};
            case "storm": return new int[] {radius() - random.nextInt(2), place(), place(), place(), place(),
                1 + random.nextInt(100)};
            case "hit": return new int[] {what(4)};
            case "drawn": return new int[] {treaty(), random.nextInt() & Integer.MAX_VALUE, 1 + random.nextInt(100), what(4)};
            case "alarm": case "act": return new int[] {random.nextInt(random.nextInt(8) == 0 ? 33 : 6), what(3)};
            case "fault": return new int[] {what(2)};
            case "count": return new int[] {what(7)};
            default: return new int[0];
        }
    }

    // ---- texts ----

    private boolean tellText() {
        StringBuilder text = new StringBuilder(line());
        int treaties = 0;
        int lines = random.nextInt(4) == 0 ? 36 : random.nextInt(most + 4);
        for (int i = 0; i < lines && text.length() < 840; i++) text.append(line());
        if (random.nextInt(2) == 0) garble(text);
        int length = text.length();
        while (text.length() % 20 != 0) text.append(' ');
        for (int i = 0; i < text.length() && i < 900; i += 20) {
            int[] a = new int[5];
            for (int j = 0; j < 20; j++) a[j / 4] = a[j / 4] << 8 | text.charAt(i + j) & 255;
            if (!agree("feed", a)) return false;
        }
        if (random.nextInt(8) == 0 && !agree("feed", 1, 2, 3, 4, 5)) return false;
        if (random.nextInt(8) == 0 && !agree("text", extreme())) return false;
        int less = random.nextInt(6) == 0 ? random.nextInt(length + 30) : length;
        return agree("text", less) && agree("fault", 0) && agree("fault", 1) && agree("count", 6) && agree("text", 1);
    }

    private String line() {
        String gap = random.nextInt(8) == 0 ? " \n " : " ";
        if (random.nextInt(5) == 0) {
            return "treaty" + gap + perils() + gap + radius() + " " + limit() + ";";
        }
        String end = random.nextInt(8) == 0 ? " ; " : ";";
        return "policy" + gap + place() + " " + place() + gap + sum() + " " + random.nextInt(4) + end;
    }

    private void garble(StringBuilder text) {
        int times = 1 + random.nextInt(2);
        for (int i = 0; i < times; i++) {
            int at = random.nextInt(text.length());
            String[] bits = {";", " ", "9", "0", "policy ", "treaty ", "x", "P", "?", "\n", "-1", "99999999999999999999",
                "\t", "\u00e9", "\u0000", "", "00"};
            String bit = bits[random.nextInt(bits.length)];
            int cut = random.nextInt(3) == 0 ? Math.min(text.length(), at + 1 + random.nextInt(8)) : at;
            text.replace(at, cut, bit);
        }
    }
}
