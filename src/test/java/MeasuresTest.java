import java.math.BigDecimal;
import java.math.MathContext;
import java.math.RoundingMode;

/** The last digits of lengths and pulls in all boots of twelve holes, for ways of which some are next to a digit. */
public final class MeasuresTest {
    private static final MathContext DIGITS = new MathContext(50, RoundingMode.HALF_EVEN);
    private static final BigDecimal TINY = new BigDecimal("1e-35");
    private static final int[][] WAYS = {
        {0, 1, 2, 3, 6, 4, 7, 5, 8},
        {0, 1, 10, 2, 11, 3, 6, 7, 4, 8, 5, 9},
        {0, 1, 2, 3, 6, 4, 7, 5, 10, 8, 9},
        {0, 1, 2, 3, 6, 7, 4, 10, 5, 8, 9},
        {0, 1, 2, 6, 3, 7, 4, 9, 5, 10},
        {0, 1, 9, 5, 7, 4, 6, 3, 11, 2, 10},
        {0, 1, 8, 3, 10, 5, 6, 4, 9, 2, 7, 11},
        {0, 11, 1, 10}};

    public static void main(String[] args) {
        int wrong = 0;
        for (int wide = 1; wide <= 99; wide++) {
            for (int step = 1; step <= 99; step++) {
                wrong += wrongOf(wide, step);
            }
        }
        System.out.println(wrong + " measures are wrong");
        if (wrong > 0) {
            System.exit(1);
        }
    }

    private static int wrongOf(int wide, int step) {
        LacedHoles x = new LacedHoles();
        BigDecimal[] roots = new BigDecimal[6];
        for (int gap = 0; gap < 6; gap++) {
            roots[gap] = BigDecimal.valueOf((long) wide * wide + (long) gap * gap * step * step).sqrt(DIGITS);
        }
        String boot = "apart " + wide + " " + step + ";";
        int wrong = Texts.boot(x, boot) == 12 ? 0 : 1;
        for (int[] way : WAYS) {
            StringBuilder text = new StringBuilder();
            BigDecimal length = BigDecimal.ZERO;
            BigDecimal pull = BigDecimal.ZERO;
            for (int i = 0; i < way.length; i++) {
                int from = way[i];
                int to = way[(i + 1) % way.length];
                int gap = Math.abs(from % 6 - to % 6);
                boolean across = from / 6 != to / 6;
                length = length.add(across ? roots[gap] : BigDecimal.valueOf((long) gap * step));
                pull = across ? pull.add(BigDecimal.valueOf(wide).divide(roots[gap], DIGITS)) : pull;
                text.append(from).append(' ');
            }
            Texts.way(x, text.toString());
            if (x.measure(0) != cut(length, 1000) || x.measure(1) != cut(pull, 1000000)) {
                wrong++;
                System.out.println(boot + " " + text + x.measure(0) + " " + x.measure(1) + ", due are " + length + " " + pull);
            }
        }
        return wrong;
    }

    private static int cut(BigDecimal value, int times) {
        return value.add(TINY).multiply(BigDecimal.valueOf(times)).setScale(0, RoundingMode.FLOOR).intValueExact();
    }
}
