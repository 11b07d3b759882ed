import java.math.BigDecimal;
import java.math.MathContext;
import java.math.RoundingMode;
import java.util.Arrays;
import java.util.Map;
import java.util.TreeMap;
import java.util.concurrent.atomic.AtomicInteger;
import java.util.stream.IntStream;

/**
 * Boots of 9 to 12 HOLES: what LacedHoles answers, set against a going through all rounds, span by span.
 * Promises 9 to 17, 19 to 21, 24 to 28, 32. Arguments: boots, first boot.
 */
public final class LargeTest {
    private static final MathContext DIGITS = new MathContext(50, RoundingMode.HALF_EVEN);
    private static final BigDecimal TINY = new BigDecimal("1e-35");
    private static final double NEAR = 1e-7;
    private static final int[] SIDES = {1, 3, 4, 5, 7, 8, 12, 20, 21, 24, 30, 40, 60, 70, 97, 99};
    private static final AtomicInteger WRONG = new AtomicInteger();

    private interface Seen {
        void round(int[] path, double length, double pull);
    }

    private long state;
    private int left;
    private int right;
    private int wide;
    private int step;
    private int torn;
    private int law;
    private int lace;
    private final BigDecimal[] roots = new BigDecimal[6];
    private final double[] lengths = new double[144];
    private final double[] pulls = new double[144];
    private final int[] path = new int[12];
    private int size;
    private LacedHoles x;
    private int seed;

    public static void main(String[] args) {
        int boots = args.length > 0 ? Integer.parseInt(args[0]) : 24;
        int first = args.length > 1 ? Integer.parseInt(args[1]) : 1;
        IntStream.range(first, first + boots).parallel().forEach(seed -> new LargeTest().tryBoot(seed));
        System.out.println(boots + " boots, " + WRONG.get() + " answers are wrong");
        if (WRONG.get() > 0) {
            System.exit(1);
        }
    }

    private int below(int bound) {
        state = state * 6364136223846793005L + 1442695040888963407L;
        return (int) Math.floorMod(state >>> 33, (long) bound);
    }

    private void is(String call, String got, String due) {
        if (!got.equals(due)) {
            WRONG.incrementAndGet();
            System.out.println("boot " + seed + " (" + bootText() + "): " + call + " answered " + got + ", due is " + due);
        }
    }

    private void is(String call, long got, long due) {
        is(call, "" + got, "" + due);
    }

    // ---- the boot

    private String bootText() {
        StringBuilder text = new StringBuilder("rows " + left + " " + right + ";apart " + wide + " " + step + ";");
        for (int hole = 0; hole < 12; hole++) {
            text.append((torn >> hole & 1) != 0 ? "torn " + hole + ";" : "");
        }
        return text.append("law ").append(law).append(";lace ").append(lace).append(';').toString();
    }

    private void makeBoot() {
        do {
            left = 3 + below(4);
            right = below(3) == 0 ? left : 3 + below(4);
        } while (left + right < 9);
        law = seed % 3;
        wide = below(3) == 0 ? 1 + below(99) : SIDES[below(SIDES.length)];
        step = below(3) == 0 ? 1 + below(99) : SIDES[below(SIDES.length)];
        torn = below(2) == 0 ? 0 : 1 << below(left + right);
        // Of rounds of twelve holes without a law there are some twenty million: seldom.
        torn |= law == 0 && left + right == 12 && seed % 12 != 0 ? 1 << below(12) : 0;
        lace = 9999;
        for (int gap = 0; gap < 6; gap++) {
            roots[gap] = BigDecimal.valueOf((long) wide * wide + (long) gap * gap * step * step).sqrt(DIGITS);
        }
        for (int a = 0; a < left + right; a++) {
            for (int b = 0; b < left + right; b++) {
                lengths[a * 12 + b] = exactLength(a, b).doubleValue();
                pulls[a * 12 + b] = exactPull(a, b).doubleValue();
            }
        }
    }

    private int whole() {
        return (1 << left + right) - 1 & ~torn;
    }

    private boolean across(int a, int b) {
        return a < left != b < left;
    }

    private int gap(int a, int b) {
        return Math.abs((a < left ? a : a - left) - (b < left ? b : b - left));
    }

    private BigDecimal exactLength(int a, int b) {
        return across(a, b) ? roots[gap(a, b)] : BigDecimal.valueOf((long) gap(a, b) * step);
    }

    private BigDecimal exactPull(int a, int b) {
        return across(a, b) ? BigDecimal.valueOf(wide).divide(roots[gap(a, b)], DIGITS) : BigDecimal.ZERO;
    }

    private BigDecimal exact(int[] round, boolean pull) {
        BigDecimal sum = BigDecimal.ZERO;
        for (int i = 0; i < round.length; i++) {
            int next = round[(i + 1) % round.length];
            sum = sum.add(pull ? exactPull(round[i], next) : exactLength(round[i], next));
        }
        return sum;
    }

    private static int compare(BigDecimal one, BigDecimal other) {
        return one.subtract(other).abs().compareTo(TINY) < 0 ? 0 : one.compareTo(other);
    }

    private static long cut(BigDecimal value, int times) {
        return value.add(TINY).multiply(BigDecimal.valueOf(times)).setScale(0, RoundingMode.FLOOR).longValueExact();
    }

    // ---- all rounds of a set, in their order

    private boolean lawful(boolean one, boolean other) {
        return law == 0 || (law == 1 ? one || other : one != other);
    }

    private void all(int holes, Seen seen) {
        size = Integer.bitCount(holes);
        if (size >= 3) {
            path[0] = Integer.numberOfTrailingZeros(holes);
            goOn(1, holes & holes - 1, 0, 0, seen);
        }
    }

    private void goOn(int depth, int rest, double length, double pull, Seen seen) {
        int last = path[depth - 1];
        if (rest == 0) {
            boolean home = across(last, path[0]);
            if (path[1] < last && lawful(across(path[depth - 2], last), home) && lawful(home, across(path[0], path[1]))) {
                seen.round(path, length + lengths[last * 12 + path[0]], pull + pulls[last * 12 + path[0]]);
            }
            return;
        }
        for (int hole = 1; hole < left + right; hole++) {
            boolean open = (rest >> hole & 1) != 0;
            if (open && (depth < 2 || lawful(across(path[depth - 2], last), across(last, hole)))) {
                int span = last * 12 + hole;
                path[depth] = hole;
                goOn(depth + 1, rest & ~(1 << hole), length + lengths[span], pull + pulls[span], seen);
            }
        }
    }

    /** What a going through all rounds of a set has found. */
    private final class Found implements Seen {
        private final Map<Long, int[]> numbered = new TreeMap<>();
        private final int[][] best = new int[3][];
        private final double[] values = new double[3];
        private long count = 0;

        @Override
        public void round(int[] now, double length, double pull) {
            if (numbered.containsKey(count)) {
                numbered.put(count, Arrays.copyOf(now, size));
            }
            count++;
            offer(0, -length, now);
            offer(1, length, now);
            offer(2, pull, now);
        }

        private void offer(int what, double value, int[] now) {
            if (best[what] == null || value > values[what] + NEAR) {
                take(what, value, now);
            } else if (value > values[what] - NEAR) {
                int[] own = Arrays.copyOf(now, size);
                int more = sameSpans(own, best[what]) ? 0 : compare(exact(own, what == 2), exact(best[what], what == 2));
                if (what == 0 ? more < 0 : more > 0) {
                    take(what, value, now);
                }
            }
        }

        private void take(int what, double value, int[] now) {
            best[what] = Arrays.copyOf(now, size);
            values[what] = value;
        }
    }

    private boolean sameSpans(int[] one, int[] other) {
        int[] more = new int[12];
        for (int i = 0; i < one.length; i++) {
            more[kind(one[i], one[(i + 1) % one.length])]++;
            more[kind(other[i], other[(i + 1) % one.length])]--;
        }
        for (int many : more) {
            if (many != 0) {
                return false;
            }
        }
        return true;
    }

    private int kind(int a, int b) {
        return gap(a, b) + (across(a, b) ? 6 : 0);
    }

    // ---- what is asked

    private void tryBoot(int number) {
        seed = number;
        state = number * 104729L;
        below(2);
        makeBoot();
        x = new LacedHoles();
        is("boot", Texts.boot(x, bootText()), Integer.bitCount(whole()));
        trySet(whole());
        for (int i = 0; i < 3; i++) {
            trySet(someOf(whole(), 3 + below(Integer.bitCount(whole()) - 3)));
        }
        tryColours();
        for (int i = 0; i < 3; i++) {
            tryPicture();
        }
        tryLaces();
    }

    private int someOf(int holes, int many) {
        int some = holes;
        while (Integer.bitCount(some) > many) {
            some &= ~(1 << below(12));
        }
        return some;
    }

    private void trySet(int holes) {
        long count = x.count(holes);
        Found found = new Found();
        int drawn = below(0x7fffffff) * (below(2) == 0 ? -1 : 1);
        for (int i = 0; i < 12 && count > 0; i++) {
            found.numbered.put(Math.floorMod(state, count), null);
            below(2);
        }
        if (count > 0) {
            found.numbered.put(0L, null);
            found.numbered.put(count - 1, null);
            found.numbered.put((drawn & 0x7fffffffL) / 2 % count, null);
        }
        all(holes, found);
        is("count(" + holes + ")", count, found.count);
        is("take one too many", x.take(holes, found.count), -1);
        // Where the count is wrong, some of these are no rounds: told above.
        found.numbered.values().removeIf(round -> round == null);
        for (Map.Entry<Long, int[]> entry : found.numbered.entrySet()) {
            is("take(" + holes + ", " + entry.getKey() + ")", x.take(holes, entry.getKey()), Integer.bitCount(holes));
            is("the round taken", way(), told(entry.getValue()));
            tryWay(holes, found, entry.getKey(), entry.getValue());
        }
        for (int i = 0; i < 4; i++) {
            tryAnyWay(holes, found);
        }
        for (int what = 0; what < 3; what++) {
            long due = found.count == 0 ? -1 : cut(exact(found.best[what], what == 2), what == 2 ? 1000000 : 1000);
            is("best(" + holes + ", " + what + ")", x.best(holes, what), due);
            if (found.count > 0) {
                is("the best round, " + what, way(), told(found.best[what]));
            }
        }
        if (holes == whole()) {
            is("draw(" + drawn + ")", x.draw(drawn), found.count == 0 ? -1 : Integer.bitCount(holes));
            if (found.count > 0 && count == found.count) {
                is("the round drawn", way(), told(found.numbered.get((drawn & 0x7fffffffL) / 2 % count)));
            }
        }
    }

    /** A round, told from another hole on and perhaps backwards. */
    private void tryWay(int holes, Found found, long number, int[] round) {
        int from = below(round.length);
        int turn = below(2) == 0 ? 1 : -1;
        int[] own = new int[round.length];
        for (int i = 0; i < own.length; i++) {
            own[i] = round[Math.floorMod(from + turn * i, own.length)];
        }
        is("way " + told(own), Texts.way(x, told(own)), own.length);
        is("number", x.number(), number);
        is("judge", x.judge(), -1);
        is("length of " + told(own), x.measure(0), cut(exact(own, false), 1000));
        is("pull of " + told(own), x.measure(1), cut(exact(own, true), 1000000));
        is("against", x.against(), compare(exact(own, false), exact(found.best[0], false)));
        is("itself", x.itself(), left == right && torn == 0 ? images(own) : -1);
        for (int e : new int[] {0, 1 + below(9), below(1000)}) {
            is("knot(" + e + ", 0) of " + told(own), x.knot(e, 0), knot(own, e, false));
            is("knot(" + e + ", 1) of " + told(own), x.knot(e, 1), knot(own, e, true));
        }
    }

    /** A WAY that may be against the LAW. */
    private void tryAnyWay(int holes, Found found) {
        int[] own = new int[Integer.bitCount(holes)];
        int rest = holes;
        for (int i = 0; i < own.length; i++) {
            own[i] = Integer.numberOfTrailingZeros(someOf(rest, 1));
            rest &= ~(1 << own[i]);
        }
        is("way " + told(own), Texts.way(x, told(own)), own.length);
        int against = -1;
        int spans = 0;
        int turns = 0;
        for (int i = own.length - 1; i >= 0; i--) {
            boolean one = across(own[(i + own.length - 1) % own.length], own[i]);
            boolean other = across(own[i], own[(i + 1) % own.length]);
            against = lawful(one, other) ? against : own[i];
            spans += other ? 1 : 0;
            turns += one || other ? 0 : 1;
            is("wear(" + own[i] + ") in " + told(own), x.wear(own[i]), 3 - (one ? 1 : 0) - (other ? 1 : 0));
        }
        is("judge of " + told(own), x.judge(), against);
        is("spans across of " + told(own), x.measure(2), spans);
        is("turns of " + told(own), x.measure(3), turns);
        is("whether a number is told of " + told(own), x.number() >= 0 ? 1 : 0, against < 0 ? 1 : 0);
        int more = found.count == 0 ? -1 : compare(exact(own, false), exact(found.best[0], false));
        is("against by " + told(own), x.against(), found.count > 0 && more < 0 ? -2 : more);
    }

    private String way() {
        int[] holes = new int[x.told(7)];
        for (int i = 0; i < holes.length; i++) {
            holes[i] = x.at(i);
        }
        return told(holes);
    }

    private static String told(int[] round) {
        StringBuilder text = new StringBuilder();
        for (int hole : round) {
            text.append(text.length() == 0 ? "" : " ").append(hole);
        }
        return text.toString();
    }

    private int knot(int[] own, int e, boolean last) {
        BigDecimal half = exact(own, false).divide(BigDecimal.valueOf(2), DIGITS);
        BigDecimal from = BigDecimal.ZERO;
        int found = -1;
        for (int i = 0; i < own.length; i++) {
            BigDecimal to = from.add(exactLength(own[i], own[(i + 1) % own.length]));
            boolean begins = compare(from, half.add(BigDecimal.valueOf(e))) <= 0;
            boolean ends = compare(to, half.subtract(BigDecimal.valueOf(e))) >= 0;
            if (begins && ends && (last || found < 0)) {
                found = i;
            }
            from = to;
        }
        return found;
    }

    private int images(int[] own) {
        int same = 0;
        for (int image = 0; image < 4; image++) {
            boolean[] joined = new boolean[144];
            for (int i = 0; i < own.length; i++) {
                int a = imageOf(own[i], image);
                int b = imageOf(own[(i + 1) % own.length], image);
                joined[a * 12 + b] = true;
                joined[b * 12 + a] = true;
            }
            boolean all = true;
            for (int i = 0; i < own.length; i++) {
                all &= joined[own[i] * 12 + own[(i + 1) % own.length]];
            }
            same += all ? 1 : 0;
        }
        return same;
    }

    private int imageOf(int hole, int image) {
        int place = hole % left;
        int row = hole / left ^ image >> 1;
        return row * left + ((image & 1) != 0 ? left - 1 - place : place);
    }

    // ---- two laces

    private BigDecimal shortest(int holes) {
        Found found = new Found();
        all(holes, found);
        return found.count == 0 ? null : exact(found.best[0], false);
    }

    private void tryColours() {
        int half = Integer.bitCount(whole()) / 2;
        int least = -1;
        BigDecimal both = null;
        for (int colour = 0; colour <= whole(); colour++) {
            if ((colour & ~whole()) == 0 && Integer.bitCount(colour) == half) {
                BigDecimal one = shortest(colour);
                BigDecimal other = one == null ? null : shortest(whole() & ~colour);
                if (other != null && (both == null || compare(one.add(other), both) < 0)) {
                    least = colour;
                    both = one.add(other);
                }
            }
        }
        is("colours", x.colours(), least);
        if (least >= 0) {
            is("two(" + least + ")", x.two(least), cut(both, 1000));
        }
        for (int i = 0; i < 5; i++) {
            int colour = someOf(whole(), 2 + below(Integer.bitCount(whole()) - 3));
            BigDecimal one = Integer.bitCount(colour) > 9 ? null : shortest(colour);
            BigDecimal other = one == null ? null : shortest(whole() & ~colour);
            is("two(" + colour + ")", x.two(colour), other == null ? -1 : cut(one.add(other), 1000));
        }
    }

    // ---- pictures

    private void tryPicture() {
        x.blind();
        int holes = someOf(whole(), (2 + below(4)) * 2);
        int[] partner = new int[12];
        int open = holes;
        int pairs = 0;
        while (Integer.bitCount(open) > 1) {
            int one = Integer.numberOfTrailingZeros(open);
            int other = Integer.numberOfTrailingZeros(someOf(open & open - 1, 1));
            open &= ~(1 << one | 1 << other);
            partner[one] = other;
            partner[other] = one;
            pairs++;
            is("see(" + one + ", " + other + ")", x.see(one, other), pairs);
        }
        long[] many = {0};
        int[][] first = {null};
        int[] firstSeen = {0};
        all(holes & ~open, (round, length, pull) -> {
            int by = by(round, partner);
            if (by > 0) {
                first[0] = many[0] == 0 ? Arrays.copyOf(round, size) : first[0];
                firstSeen[0] = many[0] == 0 ? by : firstSeen[0];
                many[0]++;
            }
        });
        is("within", x.within(), many[0]);
        is("guess", x.guess(), many[0] == 0 ? -1 : 2 * pairs);
        if (many[0] > 0) {
            is("the round guessed", way(), told(first[0]));
            is("seen", x.seen(), firstSeen[0]);
        }
    }

    private int by(int[] round, int[] partner) {
        for (int from = 0; from < 2; from++) {
            boolean all = true;
            for (int i = from; i < size; i += 2) {
                all &= partner[round[i]] == round[(i + 1) % size];
            }
            if (all) {
                return from + 1;
            }
        }
        return 0;
    }

    // ---- laces too short

    private void tryLaces() {
        int rest = someOf(whole(), Math.max(3, Integer.bitCount(whole()) - 1 - below(3)));
        BigDecimal shortest = shortest(whole());
        BigDecimal ofRest = shortest(rest);
        if (ofRest == null) {
            return;
        }
        lace = (int) Math.max(1, Math.min(9999, cut(ofRest, 1) + below(3) - 1));
        is("boot", Texts.boot(x, bootText()), Integer.bitCount(whole()));
        is("tooShort", x.tooShort(), shortest == null ? -1 : Math.max(0, cut(shortest, 1000) - 1000L * lace));
        is("leave", x.leave(), leaving());
    }

    private int leaving() {
        for (int many = 0; many <= Integer.bitCount(whole()) - 3; many++) {
            for (int out = 0; out <= whole(); out++) {
                if ((out & ~whole()) == 0 && Integer.bitCount(out) == many) {
                    BigDecimal length = shortest(whole() & ~out);
                    if (length != null && compare(length, BigDecimal.valueOf(lace)) <= 0) {
                        return out;
                    }
                }
            }
        }
        return -1;
    }
}
