import java.math.BigInteger;
import java.util.concurrent.atomic.AtomicLong;
import java.util.stream.IntStream;

/**
 * Goes through the sums of roots of all boots, and shows that those which LacedHoles sets against each other are
 * either equal or further apart than 256 of its units, so that its SLACK of 64 decides nothing otherwise than the
 * exact roots do: lengths and their differences (24 spans) against whole numbers, pulls and their differences
 * against whole numbers, lengths (12 spans) against thousandths, pulls against millionths.
 * All is reckoned modulo 1, in parts of 2 to the power -64.
 */
public final class RootsApartTest {
    private static final int DIFFERENCE = 24;
    private static final int ROUND = 12;
    private static final int LENGTH_BITS = 48;
    private static final int PULL_BITS = 58;
    private static final AtomicLong WRONG = new AtomicLong();
    private static final AtomicLong EQUAL = new AtomicLong();

    private final int wide;
    private final int step;
    private final long[] free = new long[6];
    private final long[] factor = new long[6];
    private final long[] parts = new long[6];
    private long limit;
    private BigInteger times;
    private boolean pulls;

    private RootsApartTest(int wide, int step) {
        this.wide = wide;
        this.step = step;
        for (int gap = 1; gap <= 5; gap++) {
            long rest = square(gap);
            factor[gap] = 1;
            for (long p = 2; p * p <= rest; p++) {
                while (rest % (p * p) == 0) {
                    rest /= p * p;
                    factor[gap] *= p;
                }
            }
            free[gap] = rest;
        }
    }

    public static void main(String[] args) {
        IntStream.rangeClosed(1, 99).parallel().forEach(wide -> {
            for (int step = 1; step <= 99; step++) {
                new RootsApartTest(wide, step).checkBoot();
            }
        });
        System.out.println(EQUAL.get() + " sums are equal to what they are set against, " + WRONG.get() + " are too near");
        if (WRONG.get() != 0 || EQUAL.get() == 0) {
            System.exit(1);
        }
    }

    private long square(int gap) {
        return (long) wide * wide + (long) gap * gap * step * step;
    }

    private void checkBoot() {
        setParts(false, 1, 256L << 64 - LENGTH_BITS);
        differences();
        setParts(false, 1000, 1000 * (256L << 64 - LENGTH_BITS));
        sums();
        setParts(true, 1000000, 1000000 * (256L << 64 - PULL_BITS));
        sums();
        if (BigInteger.valueOf(wide).gcd(BigInteger.valueOf(step)).intValue() == 1) {
            setParts(true, 1, 256L << 64 - PULL_BITS);
            differences();
        }
    }

    private void setParts(boolean ofPulls, long multiple, long nearest) {
        pulls = ofPulls;
        times = BigInteger.valueOf(multiple);
        limit = nearest;
        for (int gap = 1; gap <= 5; gap++) {
            BigInteger square = BigInteger.valueOf(square(gap));
            BigInteger root = square.shiftLeft(256).sqrt();
            BigInteger value = ofPulls ? root.multiply(BigInteger.valueOf(wide)).divide(square) : root;
            parts[gap] = value.multiply(times).shiftRight(64).longValue();
        }
    }

    private void differences() {
        for (int a = 0; a <= DIFFERENCE; a++) {
            int restA = DIFFERENCE - a;
            for (int b = -restA; b <= restA; b++) {
                int restB = restA - Math.abs(b);
                for (int c = -restB; c <= restB; c++) {
                    int restC = restB - Math.abs(c);
                    for (int d = -restC; d <= restC; d++) {
                        int restD = restC - Math.abs(d);
                        row(a, b, c, d, -restD, restD);
                    }
                }
            }
        }
    }

    private void sums() {
        for (int a = 0; a <= ROUND; a++) {
            for (int b = 0; a + b <= ROUND; b++) {
                for (int c = 0; a + b + c <= ROUND; c++) {
                    for (int d = 0; a + b + c + d <= ROUND; d++) {
                        row(a, b, c, d, 0, ROUND - a - b - c - d);
                    }
                }
            }
        }
    }

    private void row(int a, int b, int c, int d, int from, int to) {
        long last = parts[5];
        long near = limit;
        long sum = a * parts[1] + b * parts[2] + c * parts[3] + d * parts[4] + from * last;
        for (int e = from; e <= to; e++) {
            if (sum < near && sum > -near) {
                checkNear(new int[] {0, a, b, c, d, e});
            }
            sum += last;
        }
    }

    /** Roots of numbers free of squares hang together by no whole numbers, so sums are equal only number by number. */
    private void checkNear(int[] many) {
        boolean equal = true;
        for (int gap = 1; gap <= 5; gap++) {
            BigInteger over = BigInteger.ZERO;
            BigInteger under = BigInteger.ONE;
            for (int other = 1; other <= 5; other++) {
                if (free[other] == free[gap]) {
                    BigInteger f = BigInteger.valueOf(factor[other]);
                    BigInteger n = BigInteger.valueOf(many[other]);
                    over = pulls ? over.multiply(f).add(n.multiply(under)) : over.add(n.multiply(f));
                    under = pulls ? under.multiply(f) : under;
                }
            }
            over = over.multiply(pulls ? times.multiply(BigInteger.valueOf(wide)) : times);
            equal &= free[gap] == 1 ? over.mod(under).signum() == 0 : over.signum() == 0;
        }
        (equal ? EQUAL : WRONG).incrementAndGet();
        if (!equal) {
            System.out.println("too near: " + wide + " " + step + " " + java.util.Arrays.toString(many) + " x" + times);
        }
    }
}
