import java.util.NoSuchElementException;
import java.util.function.Function;

/** Long runs of mixed calls, each answer set against SlowLaces. Arguments: runs, first run, most holes in a row. */
public final class SlowTest {
    private static final String[] NAMES = {
        "fault", "told", "span", "at", "judge", "measure", "number", "count", "take", "best", "against", "leave",
        "tooShort", "alike", "itself", "two", "colours", "see", "blind", "within", "guess", "seen", "knot", "wear",
        "keep", "drop", "weeks", "draw", "image", "restore", "sums", "way", "way", "boot", "feed", "see", "keep",
        "guess", "seen", "knot", "best", "take", "number", "against", "weeks"};
    private static final String WAY_SIGNS = "0123456789   ,a;";
    private static final String BOOT_SIGNS = "0123456789 ;;rowslacetorn A{\u00e9";

    private long state;
    private LacedHoles quick;
    private SlowLaces slow;
    private final StringBuilder story = new StringBuilder();
    private int calls;
    private int mostInRow = 4;

    private int below(int bound) {
        state = state * 6364136223846793005L + 1442695040888963407L;
        return (int) Math.floorMod((state >>> 33), (long) bound);
    }

    public static void main(String[] args) {
        int runs = args.length > 0 ? Integer.parseInt(args[0]) : 300;
        int first = args.length > 1 ? Integer.parseInt(args[1]) : 1;
        int wrong = 0;
        for (int run = first; run < first + runs; run++) {
            SlowTest test = new SlowTest();
            test.mostInRow = args.length > 2 ? Integer.parseInt(args[2]) : 4;
            wrong += test.run(run) ? 0 : 1;
        }
        System.out.println(runs + " runs, " + wrong + " of them wrong");
        if (wrong > 0) {
            System.exit(1);
        }
    }

    private boolean run(int seed) {
        state = seed * 7919L;
        quick = new LacedHoles();
        slow = new SlowLaces();
        feedAndRead(bootText(true), true);
        for (calls = 0; calls < 400; ) {
            if (!oneCall(NAMES[below(NAMES.length)])) {
                System.out.println("run " + seed + ":\n" + story);
                return false;
            }
        }
        return true;
    }

    // ---- texts

    private String blanks() {
        return below(5) == 0 ? "  ".substring(below(2)) : "";
    }

    private String clause(int left, int right) {
        int[] lengths = {1, 3, 4, 5, 8, 12, 20, 21, 24, 30, 40, 60, 99};
        switch (below(7)) {
            case 0:
                return "apart " + lengths[below(13)] + " " + lengths[below(13)];
            case 1:
                return "apart " + (1 + below(99)) + blanks() + " 0" + (1 + below(99));
            case 2:
                return "torn " + below(left + right);
            case 3:
            case 4:
                return "law" + blanks() + below(3);
            default:
                return "lace " + (1 + below(below(2) == 0 ? 60 : 900));
        }
    }

    private String bootText(boolean lawful) {
        int left = 1 + below(mostInRow);
        int right = below(2) == 0 ? left : 1 + below(mostInRow);
        StringBuilder text = new StringBuilder("rows " + left + " " + right + blanks() + ";");
        for (int i = below(5); i > 0; i--) {
            text.append(blanks()).append(clause(left, right)).append(blanks()).append(";");
        }
        text.append(blanks());
        if (!lawful && below(8) == 0) {
            text.append("rows 2 2;");
        }
        if (!lawful && below(10) == 0) {
            for (int i = 0; i < 39; i++) {
                text.append("law ").append(below(3)).append(";");
            }
        }
        for (int i = lawful ? 0 : below(3); i > 0; i--) {
            text.setCharAt(below(text.length()), BOOT_SIGNS.charAt(below(BOOT_SIGNS.length())));
        }
        if (!lawful && below(4) == 0) {
            text.setLength(below(text.length() + 1));
        }
        return text.toString();
    }

    private String wayText() {
        int holes = slow.told(0) + slow.told(1);
        StringBuilder text = new StringBuilder(blanks());
        int used = slow.told(6);
        int size = 2 + below(holes);
        for (int i = 0; i < size; i++) {
            int hole = below(holes + (below(30) == 0 ? 2 : 0));
            for (int j = 0; j < holes && (used >> hole & 1) != 0 && below(40) > 0; j++) {
                hole = (hole + 1) % holes;
            }
            used |= 1 << hole;
            text.append(hole).append(" ").append(blanks());
        }
        if (below(12) == 0) {
            text.setCharAt(below(text.length()), WAY_SIGNS.charAt(below(WAY_SIGNS.length())));
        }
        return text.toString();
    }

    private boolean feedAndRead(String text, boolean isBoot) {
        while (slow.sums(3) > 0) {
            if (!check("boot(500)", x -> (long) x.boot(500), x -> (long) x.boot(500))) {
                return false;
            }
            if (!check("way(0)", x -> (long) x.way(0), x -> (long) x.way(0))) {
                return false;
            }
        }
        for (int i = 0; i < text.length(); i += 20) {
            int[] parts = new int[5];
            for (int j = 0; j < 20; j++) {
                parts[j / 4] = parts[j / 4] << 8 | (i + j < text.length() ? text.charAt(i + j) : 0);
            }
            if (!feed(parts)) {
                return false;
            }
        }
        int n = text.length();
        String call = (isBoot ? "boot " : "way ") + text;
        return isBoot ? check(call, x -> (long) x.boot(n), x -> (long) x.boot(n)) : check(call, x -> (long) x.way(n), x -> (long) x.way(n));
    }

    private boolean feed(int[] p) {
        return check("feed", x -> (long) x.feed(p[0], p[1], p[2], p[3], p[4]), x -> (long) x.feed(p));
    }

    // ---- calls

    private static <T> String answer(T object, Function<T, Long> call) {
        try {
            return String.valueOf(call.apply(object));
        } catch (IllegalArgumentException | IndexOutOfBoundsException | NoSuchElementException e) {
            return e.getClass() == StringIndexOutOfBoundsException.class || e.getClass() == ArrayIndexOutOfBoundsException.class
                ? "machine " + e : e.getClass().getSimpleName();
        }
    }

    private boolean check(String what, Function<LacedHoles, Long> one, Function<SlowLaces, Long> other) {
        calls++;
        String got = answer(quick, one);
        String due = answer(slow, other);
        story.append(what).append(" -> ").append(got);
        story.append(got.equals(due) ? "\n" : ", due is " + due + "\n");
        return got.equals(due);
    }

    private int someBits() {
        int whole = (1 << slow.told(0) + slow.told(1)) - 1 & ~slow.told(6);
        int kind = below(12);
        if (kind == 0) {
            return below(5000) - 10;
        }
        return kind < 6 ? whole : whole & below(4096);
    }

    private boolean oneCall(String name) {
        int holes = slow.told(0) + slow.told(1);
        int a = below(holes + 1) - (below(9) == 0 ? 1 : 0);
        int b = below(holes + (below(9) == 0 ? 1 : 0));
        int what = below(9) - 1;
        int bits = someBits();
        switch (name) {
            case "boot":
                // A text without rows makes twelve holes, too many rounds to list.
                return feedAndRead(bootText(below(2) == 0), true)
                    && (slow.told(0) <= mostInRow && slow.told(1) <= mostInRow || feedAndRead(bootText(true), true));
            case "way":
                return feedAndRead(wayText(), false);
            case "feed":
                return feed(new int[] {below(1 << 30), -below(1 << 30), 0x20312032, 0x3b20, 7});
            case "take":
            case "draw":
            case "number":
            case "count":
                return numbers(name, bits);
            case "see":
                return check("see " + a + " " + b, x -> (long) x.see(a, b), x -> (long) x.see(a, b));
            case "span":
                return check("span " + a + " " + b, x -> (long) x.span(a, b), x -> (long) x.span(a, b));
            case "best":
                int sort = below(20) == 0 ? what : below(3);
                return check("best " + bits + " " + sort, x -> (long) x.best(bits, sort), x -> (long) x.best(bits, sort))
                    && check("number", x -> slow.told(7) == 0 ? 0L : x.number(), x -> slow.told(7) == 0 ? 0L : x.number());
            case "knot":
                int e = below(9) == 0 ? below(1010) - 5 : below(60);
                int end = below(9) == 0 ? what : below(2);
                return check("knot " + e + " " + end, x -> (long) x.knot(e, end), x -> (long) x.knot(e, end));
            case "weeks":
                int weeks = below(15);
                int part = below(9) == 0 ? what : below(2);
                return check("weeks " + weeks + " " + part, x -> (long) x.weeks(weeks, part), x -> (long) x.weeks(weeks, part));
            default:
                return simple(name, a, what, bits);
        }
    }

    private boolean numbers(String name, int bits) {
        int n = below(below(2) == 0 ? 40 : 3000) - 2;
        switch (name) {
            case "take":
                return check("take " + bits + " " + n, x -> (long) x.take(bits, n), x -> (long) x.take(bits, n));
            case "draw":
                int seed = (int) (state >>> 20);
                return check("draw " + seed, x -> (long) x.draw(seed), x -> (long) x.draw(seed));
            case "number":
                return check("number", x -> x.number(), x -> x.number());
            default:
                return check("count " + bits, x -> x.count(bits), x -> x.count(bits));
        }
    }

    private boolean simple(String name, int a, int what, int bits) {
        switch (name) {
            case "fault": return check(name, x -> (long) x.fault(), x -> (long) x.fault());
            case "told": return check(name + what, x -> (long) x.told(what), x -> (long) x.told(what));
            case "at": return check(name + a, x -> (long) x.at(a), x -> (long) x.at(a));
            case "judge": return check(name, x -> (long) x.judge(), x -> (long) x.judge());
            case "measure": return check(name + what, x -> (long) x.measure(what), x -> (long) x.measure(what));
            case "against": return check(name, x -> (long) x.against(), x -> (long) x.against());
            case "leave": return check(name, x -> (long) x.leave(), x -> (long) x.leave());
            case "tooShort": return check(name, x -> (long) x.tooShort(), x -> (long) x.tooShort());
            case "alike": return check(name, x -> (long) x.alike(), x -> (long) x.alike());
            case "itself": return check(name, x -> (long) x.itself(), x -> (long) x.itself());
            case "two": return check(name + " " + bits, x -> (long) x.two(bits), x -> (long) x.two(bits));
            case "colours": return check(name, x -> (long) x.colours(), x -> (long) x.colours());
            case "blind": return below(6) > 0 || check(name, x -> (long) x.blind(), x -> (long) x.blind());
            case "within": return check(name, x -> (long) x.within(), x -> (long) x.within());
            case "guess": return check(name, x -> (long) x.guess(), x -> (long) x.guess());
            case "seen": return check(name, x -> (long) x.seen(), x -> (long) x.seen());
            case "wear": return check(name + a, x -> (long) x.wear(a), x -> (long) x.wear(a));
            case "keep": return check(name, x -> (long) x.keep(), x -> (long) x.keep());
            case "drop": return below(6) > 0 || check(name, x -> (long) x.drop(), x -> (long) x.drop());
            case "image": return check(name, x -> (long) x.image(), x -> (long) x.image());
            case "restore": return check(name, x -> (long) x.restore(), x -> (long) x.restore());
            default: return check("sums" + what, x -> (long) x.sums(what), x -> (long) x.sums(what));
        }
    }
}
