import java.util.function.Supplier;
import java.util.function.ToLongFunction;

/** The boundaries of ROUNDS of some HOLES: promises 12 to 18, 20, 21 and 32. */
public final class RoundEdgesTest extends Edges {
    private static final String RECTANGLE = "rows 2 2;apart 3 4;";
    // Holes 0, 1, 4 and 11 are whole; their shortest round is longer than 962 by a fourth of a millionth.
    private static final String NEAR_962 = "apart 61 94;lace 962;torn 2;torn 3;torn 5;torn 6;torn 7;torn 8;torn 9;torn 10;";
    private static final String FEWEST = "A ROUND of some HOLES (3 at least) goes through each of them once";
    private static final String WRONG_HOLES = "IllegalArgumentException: bits of no HOLES, torn ones, fewer than 3 (so below)";
    private static final String ONE = "1: each HOLE has a SPAN across (to the other row)";
    private static final String JUST_ONE = "2: each HOLE has just one SPAN across";
    private static final String ORDER = "ROUNDS are in order by HOLES (as told so, HOLE by HOLE)";
    private static final String NONE_SUCH = "NONE: none such (the WAY stays)";
    private static final String THERE_IS_NONE = "NONE: there is none (the WAY stays)";
    private static final String ANOTHER = "IllegalArgumentException: another what (so below)";
    private static final String BECOMES = "SHORTEST (what 0), LONGEST (1), STRONGEST (2) becomes the WAY: MEASURE (PULL)";
    private static final String ALIKE_FIRST = "SHORTEST, LONGEST: of lawful ROUNDS of some HOLES; of alike ones the first";
    private static final String STRONGEST = "STRONGEST: the lawful one of the most PULL, of alike ones the first";
    private static final String NO_WAY = "NoSuchElementException: there is no WAY (so below)";
    private static final String AGAINST = "0 as long, 1 longer, -2 shorter (it is not lawful, then); NONE: none is lawful";
    private static final String LEAVING = "the fewest HOLES to be left out, so that some lawful ROUND of the others (3 at least) is no longer than the lace";
    private static final String LEAST = "of such sets the least (bits)";
    private static final String NO_SET = "LEAVING: the bits; NONE: no set does.";
    private static final String SHORT = "by how much the lace is too short for the SHORTEST of all that are not torn (MEASURE of the LENGTH less 1,000 X; 0 if it is not)";
    private static final String SHORT_NONE = "SHORT; NONE: none is lawful.";
    private static final String ALIKE = "How many lawful ROUNDS of all HOLES there are, ALIKE ones once";
    private static final String NOT_ALIKE = "NONE: rows are unlike, or some is torn, or there are more than 8 HOLES";
    private static final String TWO = "HOLES of a colour (bits) and all others, each a lawful ROUND of its own (3 at least): the least LENGTH of both together";
    private static final String CANNOT = "TWO LACES: MEASURE of both; NONE: it can't be.";
    private static final String WRONG_COLOUR = "IllegalArgumentException: bits of no HOLES, or of torn ones.";
    private static final String HALF = "of half of the HOLES that are not torn (cut), of alike ones the least bits; NONE";
    private static final String DRAWN = "that of the number that the lowest 31 bits of the SEED, by 2, cut, leave by c";

    public static void main(String[] args) {
        wrongHoles();
        counts();
        takes();
        takesNone();
        bests();
        bestsAlike();
        against();
        leaving();
        tooShort();
        alike();
        twoLaces();
        colours();
        drawn();
        end(12, 13, 14, 15, 16, 17, 18, 20, 21, 32);
    }

    private static void wrongHoles() {
        // Holes 0 to 7 and 9, of which 8 is torn: 767 is all of them.
        int[] wrong = {0, 1, 3, 3 << 6, 256, 7 + 256, 511, 512, 7 + 512, 7 + 2048, 7 + 4096, 7 | Integer.MIN_VALUE, -1,
            Integer.MIN_VALUE, Integer.MAX_VALUE};
        for (int holes : wrong) {
            refused(12, WRONG_HOLES, "count(" + holes + ")", laden(), x -> x.count(holes), ARGUMENT);
            refused(13, WRONG_HOLES, "take(" + holes + ", 0)", laden(), x -> x.take(holes, 0), ARGUMENT);
            for (int what = 0; what <= 2; what++) {
                int asked = what;
                refused(14, WRONG_HOLES, "best(" + holes + ", " + what + ")", laden(), x -> x.best(holes, asked), ARGUMENT);
            }
        }
        refused(13, WRONG_HOLES, "two HOLES, and no number either", laden(), x -> x.take(3, -1), ARGUMENT);
        refused(12, WRONG_HOLES, "one more than the last of twelve", fresh(), x -> x.count(7 + 4096), ARGUMENT);
        answers(12, WRONG_HOLES, "all twelve", fresh(), x -> x.count(4095), "19958400");
        answers(12, WRONG_HOLES, "all that are not torn", laden(), x -> x.count(255), "2520");
        answers(12, FEWEST, "the first three", fresh(), x -> x.count(7), "1");
        answers(12, FEWEST, "the last three", fresh(), x -> x.count(7 << 9), "1");
        refused(12, FEWEST, "a HOLE fewer", fresh(), x -> x.count(6 << 9), ARGUMENT);
        refused(12, FEWEST, "all HOLES, but there are two", on("rows 1 1;"), x -> x.count(3), ARGUMENT);
    }

    // ---- promise 12

    private static void counts() {
        int[] due = {1, 3, 12, 60, 360, 2520, 20160, 181440, 1814400, 19958400};
        for (int size = 3; size <= 12; size++) {
            int holes = (1 << size) - 1;
            answers(12, "LAW 0: any ROUND", size + " HOLES", fresh(), x -> x.count(holes), "" + due[size - 3]);
        }
        answers(12, ONE, "three HOLES of one row: none", on("law 1;"), x -> x.count(7), "0");
        answers(12, ONE, "two and one", on("law 1;"), x -> x.count(67), "1");
        answers(12, ONE, "three and one: none", on("law 1;"), x -> x.count(71), "0");
        answers(12, ONE, "two each: all three", on("law 1;"), x -> x.count(195), "3");
        answers(12, ONE, "four and two", on("law 1;"), x -> x.count(207), "12");
        answers(12, ONE, "four and one: none", on("law 1;"), x -> x.count(79), "0");
        answers(12, ONE, "three each", on("law 1;"), x -> x.count(455), "42");
        answers(12, ONE, "all twelve", on("law 1;"), x -> x.count(4095), "3758400");
        answers(12, JUST_ONE, "two each", on("law 2;"), x -> x.count(195), "2");
        answers(12, JUST_ONE, "two and one: none", on("law 2;"), x -> x.count(67), "0");
        answers(12, JUST_ONE, "four and two: none", on("law 2;"), x -> x.count(207), "0");
        answers(12, JUST_ONE, "three each: none", on("law 2;"), x -> x.count(455), "0");
        answers(12, JUST_ONE, "all twelve", on("law 2;"), x -> x.count(4095), "86400");
    }

    // ---- promise 13

    private static void takenAre(String edge, String boot, int holes, long number, int... due) {
        edge(13, ORDER, edge, () -> {
            LacedHoles x = on(boot, "2 1 0").get();
            is("take", x.take(holes, number), due.length);
            holesAre(x, due);
            is("number", x.number(), number);
        });
    }

    private static void takes() {
        takenAre("the first of all", "", 4095, 0, 0, 1, 2, 3, 4, 5, 6, 7, 8, 9, 10, 11);
        takenAre("the second of all", "", 4095, 1, 0, 1, 2, 3, 4, 5, 6, 7, 8, 9, 11, 10);
        takenAre("the last of all", "", 4095, 19958399, 0, 10, 9, 8, 7, 6, 5, 4, 3, 2, 1, 11);
        takenAre("the only one of the last three", "", 7 << 9, 0, 9, 10, 11);
        takenAre("the last of four", "", 15 << 8, 2, 8, 10, 9, 11);
        takenAre("the first by law 1", "rows 3 3;law 1;", 63, 0, 0, 1, 3, 2, 4, 5);
        takenAre("the last by law 1", "rows 3 3;law 1;", 63, 41, 0, 4, 3, 2, 1, 5);
        takenAre("the first by law 2", RECTANGLE + "law 2;", 15, 0, 0, 1, 2, 3);
        takenAre("the last by law 2", RECTANGLE + "law 2;", 15, 1, 0, 1, 3, 2);
    }

    private static void takesNone() {
        refused(13, NONE_SUCH, "one less than 0", laden(), x -> x.take(255, -1), NONE);
        refused(13, NONE_SUCH, "one more than the last", laden(), x -> x.take(255, 2520), NONE);
        refused(13, NONE_SUCH, "the least number", laden(), x -> x.take(255, Long.MIN_VALUE), NONE);
        refused(13, NONE_SUCH, "the greatest number", laden(), x -> x.take(255, Long.MAX_VALUE), NONE);
        refused(13, NONE_SUCH, "2 to the power 32: none of int", laden(), x -> x.take(255, 1L << 32), NONE);
        refused(13, NONE_SUCH, "1 of three HOLES", laden(), x -> x.take(7, 1), NONE);
        refused(13, NONE_SUCH, "one more than the last of all", on("", "3 2 1"), x -> x.take(4095, 19958400), NONE);
        refused(13, NONE_SUCH, "none is lawful", on("law 2;", "3 2 1"), x -> x.take(7, 0), NONE);
        refused(13, NONE_SUCH, "one more than the last by law 2", on(RECTANGLE + "law 2;", "3 2 1"), x -> x.take(15, 2), NONE);
        refused(13, NONE_SUCH, "one more than the last by law 1", on("rows 3 3;law 1;", "3 2 1"), x -> x.take(63, 42), NONE);
        refused(13, NONE_SUCH, "no WAY: there is none afterwards", fresh(), x -> x.take(7, 1), NONE);
    }

    // ---- promise 14

    private static void bestIs(String sentence, String edge, String boot, int holes, int what, int answer, int... due) {
        edge(14, sentence, edge, () -> {
            LacedHoles x = on(boot, "2 1 0").get();
            is("best", x.best(holes, what), answer);
            holesAre(x, due);
        });
    }

    private static void bests() {
        refused(14, ANOTHER, "one less than the first", laden(), x -> x.best(255, -1), ARGUMENT);
        refused(14, ANOTHER, "one more than the last", laden(), x -> x.best(255, 3), ARGUMENT);
        refused(14, ANOTHER, "the least number", laden(), x -> x.best(7, Integer.MIN_VALUE), ARGUMENT);
        refused(14, ANOTHER, "the greatest number", laden(), x -> x.best(7, Integer.MAX_VALUE), ARGUMENT);
        for (int what = 0; what <= 2; what++) {
            int asked = what;
            refused(14, THERE_IS_NONE, "law 2, three HOLES, what " + what, on("law 2;", "5 4 3"), x -> x.best(67, asked), NONE);
            refused(14, THERE_IS_NONE, "law 1, one row, what " + what, on("law 1;", "5 4 3"), x -> x.best(63, asked), NONE);
            refused(14, THERE_IS_NONE, "no WAY afterwards, what " + what, on("law 2;"), x -> x.best(7, asked), NONE);
        }
        bestIs(BECOMES, "0", RECTANGLE, 15, 0, 14000, 0, 1, 3, 2);
        bestIs(BECOMES, "1", RECTANGLE, 15, 1, 18000, 0, 1, 2, 3);
        bestIs(BECOMES, "2", RECTANGLE, 15, 2, 3200000, 0, 2, 1, 3);
        edge(14, BECOMES, "one after the other", () -> {
            LacedHoles x = on(RECTANGLE).get();
            int[][] due = {{15, 0, 14000}, {15, 1, 18000}, {15, 2, 3200000}, {7, 2, 1600000}, {7, 1, 12000}, {15, 1, 18000}, {15, 0, 14000},
                {13, 0, 12000}, {15, 0, 14000}, {15, 2, 3200000}, {15, 1, 18000}};
            for (int[] row : due) {
                is("best(" + row[0] + ", " + row[1] + ")", x.best(row[0], row[1]), row[2]);
                is("holes of the way", x.told(7), Integer.bitCount(row[0]));
            }
        });
        edge(14, BECOMES, "of HOLES that were not asked before", () -> {
            LacedHoles x = on("rows 4 4;apart 30 40;").get();
            int[][] due = {{14, 160000}, {15, 240000}, {240, 240000}, {255, 300000}, {51, 140000}, {204, 140000}, {252, 275440}};
            for (int[] row : due) {
                is("best(" + row[0] + ", 0)", x.best(row[0], 0), row[1]);
                is("holes of the way", x.told(7), Integer.bitCount(row[0]));
            }
        });
        bestIs(FEWEST, "the last three, 0", "apart 12 5;", 7 << 9, 0, 20000, 9, 10, 11);
        bestIs(FEWEST, "two and one, 1", "apart 12 5;", 3 + 64, 1, 30000, 0, 1, 6);
        bestIs(FEWEST, "two and one, 2", "apart 12 5;", 3 + 64, 2, 1923076, 0, 1, 6);
        bestIs(FEWEST, "all twelve, 0", "", 4095, 0, 260000, 0, 1, 2, 3, 4, 5, 11, 10, 9, 8, 7, 6);
        bestIs("lawful ROUNDS of some HOLES", "the unlawful are shorter", "apart 99 1;law 2;", 975, 0, 400010, 0, 1, 8, 9, 3, 2, 7, 6);
        bestIs("lawful ROUNDS of some HOLES", "the unlawful pull more", RECTANGLE + "law 2;", 15, 2, 2000000, 0, 1, 3, 2);
    }

    private static void bestsAlike() {
        bestIs(ALIKE_FIRST, "SHORTEST: in one row", "rows 6 1;", 63, 0, 200000, 0, 1, 2, 3, 4, 5);
        bestIs(ALIKE_FIRST, "SHORTEST: without its top", "rows 6 1;", 62, 0, 160000, 1, 2, 3, 4, 5);
        bestIs(ALIKE_FIRST, "LONGEST: in one row", "rows 6 1;apart 1 1;", 31, 1, 12000, 0, 2, 3, 1, 4);
        bestIs(ALIKE_FIRST, "LONGEST: a square", "rows 2 2;apart 5 5;", 15, 1, 24142, 0, 1, 2, 3);
        bestIs(STRONGEST, "no PULL at all", "", 15, 2, 0, 0, 1, 2, 3);
        bestIs(STRONGEST, "four by one of the other row", "rows 3 1;apart 4 3;", 15, 2, 1800000, 0, 2, 1, 3);
        String exact = "LENGTHS are set against each other exactly";
        bestIs(exact, "SHORTEST: an earlier one is of the same MEASURE, but longer", "apart 2 83;", 3075, 0, 830012, 0, 1, 11, 10);
        bestIs(exact, "LONGEST: an earlier one is of the same MEASURE, but shorter", "apart 1 29;", 117, 1, 522012, 0, 4, 6, 2, 5);
        bestIs(STRONGEST, "an earlier one is told the same PULL, but has less", "apart 83 20;", 217, 2, 3593017, 0, 6, 4, 3, 7);
        edge(14, exact, "none before the first is as long, though it be of other SPANS", () -> {
            // Across by 0, 1 and 2 places: 4, 5 and twice a root of 13; along 3: whole ones hang together.
            for (String boot : new String[] {"rows 4 3;apart 4 3;", "rows 4 3;apart 1 1;", "rows 3 4;apart 8 15;law 1;"}) {
                for (int what = 0; what <= 1; what++) {
                    LacedHoles x = on(boot).get();
                    int best = x.best(127, what);
                    long first = x.number();
                    LacedHoles y = on(boot).get();
                    for (long number = Math.max(0, first - 200); number < first; number++) {
                        y.take(127, number);
                        int length = y.measure(0);
                        is(boot + what + " at " + number, what == 0 ? length > best ? 1 : 0 : length < best ? 1 : 0, 1);
                    }
                }
            }
        });
    }

    // ---- promise 15

    private static void against() {
        refused(15, NO_WAY, "law 0", fresh(), LacedHoles::against, NO_SUCH);
        refused(15, NO_WAY, "none is lawful", on("rows 1 2;law 2;"), LacedHoles::against, NO_SUCH);
        answers(15, AGAINST, "as long", on(RECTANGLE, "0 1 3 2"), LacedHoles::against, "0");
        answers(15, AGAINST, "as long, told otherwise", on(RECTANGLE, "3 1 0 2"), LacedHoles::against, "0");
        answers(15, AGAINST, "as long as the first of alike ones", on("rows 6 1;", "0 2 5 4 3 1"), LacedHoles::against, "0");
        answers(15, AGAINST, "three HOLES have one", on("", "3 1 8"), LacedHoles::against, "0");
        answers(15, AGAINST, "longer", on(RECTANGLE, "0 2 1 3"), LacedHoles::against, "1");
        answers(15, AGAINST, "longer, but of the same MEASURE", on("apart 2 83;", "0 1 10 11"), LacedHoles::against, "1");
        answers(15, AGAINST, "shorter", on("rows 4 4;apart 99 1;law 2;", "0 1 2 3 7 6 5 4"), LacedHoles::against, "-2");
        answers(15, AGAINST, "not lawful, and longer", on(RECTANGLE + "law 2;", "0 2 1 3"), LacedHoles::against, "1");
        answers(15, AGAINST, "not lawful, and as long", on("rows 4 1;apart 1 5;law 1;", "0 4 1"), LacedHoles::against, "0");
        answers(15, AGAINST, "not lawful, but as long: the square's", on("rows 2 2;apart 5 5;law 2;", "0 2 3 1"), LacedHoles::against, "0");
        answers(15, AGAINST, "none is lawful: law 2, three HOLES", on("law 2;", "0 1 6"), LacedHoles::against, NONE);
        answers(15, AGAINST, "none is lawful: law 1, one row", on("law 1;", "0 1 2"), LacedHoles::against, NONE);
        answers(15, "the SHORTEST of its HOLES", "not of all", on("", "0 5 6"), LacedHoles::against, "0");
    }

    // ---- promises 16 and 17

    private static void leaving() {
        answers(16, LEAVING, "as long as the lace", on(RECTANGLE + "lace 14;"), LacedHoles::leave, "0");
        answers(16, LEAVING, "one longer", on(RECTANGLE + "lace 13;"), LacedHoles::leave, "1");
        answers(16, LEAVING, "the last three as long as the lace", on(RECTANGLE + "lace 12;"), LacedHoles::leave, "1");
        answers(16, NO_SET, "the last three one longer", on(RECTANGLE + "lace 11;"), LacedHoles::leave, NONE);
        answers(16, LEAVING, "longer by a root's part", on("rows 2 1;apart 1 1;lace 3;"), LacedHoles::leave, NONE);
        answers(16, LEAVING, "shorter by a root's part", on("rows 2 1;apart 1 1;lace 4;"), LacedHoles::leave, "0");
        answers(16, LEAVING, "two HOLES would be short enough", on("rows 3 3;apart 1 99;lace 100;"), LacedHoles::leave, NONE);
        answers(16, LEAVING, "longer by less than a millionth", on(NEAR_962), LacedHoles::leave, "1");
        answers(16, LEAVING, "nine of twelve are left out", on("apart 99 1;lace 4;"), LacedHoles::leave, "511");
        answers(16, LEAVING, "three in a row, one longer", on("apart 99 1;lace 3;"), LacedHoles::leave, NONE);
        answers(16, LEAVING, "a row is left out", on("apart 99 1;lace 10;"), LacedHoles::leave, "63");
        answers(16, LEAVING, "one of more bits rather than two of less", on("rows 4 1;apart 99 1;lace 200;"), LacedHoles::leave, "16");
        answers(16, LEAST, "each end of each row would do", on("rows 3 3;apart 1 99;lace 200;"), LacedHoles::leave, "9");
        answers(16, LEAVING, "the longest lace", on("apart 99 99;"), LacedHoles::leave, "0");
        answers(16, LEAVING, "by law 2 an odd one is left out", on("rows 2 3;law 2;"), LacedHoles::leave, "4");
        answers(16, LEAVING, "by law 1 a row of three needs two", on("rows 4 1;law 1;"), LacedHoles::leave, "3");
        answers(16, NO_SET, "torn ones are not told", on(RECTANGLE + "torn 0;lace 12;"), LacedHoles::leave, "0");
        answers(16, NO_SET, "three that are not torn, too long", on(RECTANGLE + "torn 0;lace 11;"), LacedHoles::leave, NONE);
        answers(16, NO_SET, "two HOLES", on("rows 1 1;"), LacedHoles::leave, NONE);
        answers(16, NO_SET, "two HOLES that are not torn", on("rows 2 2;torn 3;torn 0;"), LacedHoles::leave, NONE);
        answers(16, NO_SET, "all are torn", on("rows 1 1;torn 0;torn 1;"), LacedHoles::leave, NONE);
        answers(16, NO_SET, "none is lawful of any", on("rows 6 1;torn 6;law 1;"), LacedHoles::leave, NONE);
        refused(16, NO_SET, "nothing becomes the WAY", laden(), LacedHoles::leave, "16");
    }

    private static void tooShort() {
        answers(17, SHORT, "just as long", on(RECTANGLE + "lace 14;"), LacedHoles::tooShort, "0");
        answers(17, SHORT, "one longer", on(RECTANGLE + "lace 13;"), LacedHoles::tooShort, "1000");
        answers(17, SHORT, "one shorter", on(RECTANGLE + "lace 15;"), LacedHoles::tooShort, "0");
        answers(17, SHORT, "a root's part, cut", on("rows 2 1;apart 1 1;lace 3;"), LacedHoles::tooShort, "414");
        answers(17, SHORT, "less than the next whole one", on("rows 2 1;apart 1 1;lace 4;"), LacedHoles::tooShort, "0");
        answers(17, SHORT, "some thousandths, cut", on("rows 2 1;apart 98 1;lace 197;"), LacedHoles::tooShort, "5");
        answers(17, SHORT, "by less than a millionth", on(NEAR_962), LacedHoles::tooShort, "0");
        answers(17, SHORT, "the longest lace", on("apart 99 99;"), LacedHoles::tooShort, "0");
        answers(17, SHORT, "the shortest lace", on("apart 99 99;lace 1;"), LacedHoles::tooShort, "1187000");
        answers(17, SHORT, "without the torn", on(RECTANGLE + "torn 3;lace 1;"), LacedHoles::tooShort, "11000");
        answers(17, SHORT_NONE, "two HOLES", on("rows 1 1;lace 1;"), LacedHoles::tooShort, NONE);
        answers(17, SHORT_NONE, "two HOLES that are not torn", on("rows 2 1;torn 1;lace 1;"), LacedHoles::tooShort, NONE);
        answers(17, SHORT_NONE, "all are torn", on("rows 1 1;torn 0;torn 1;"), LacedHoles::tooShort, NONE);
        answers(17, SHORT_NONE, "law 2, three and three", on("rows 3 3;law 2;"), LacedHoles::tooShort, NONE);
        answers(17, SHORT_NONE, "law 1, four and one", on("rows 4 1;law 1;"), LacedHoles::tooShort, NONE);
        answers(17, SHORT_NONE, "three HOLES, one lawful", on("rows 2 1;law 1;lace 86;"), LacedHoles::tooShort, "55");
    }

    // ---- promise 18

    private static void alike() {
        answers(18, ALIKE, "two HOLES", on("rows 1 1;"), LacedHoles::alike, "0");
        answers(18, ALIKE, "four HOLES", on("rows 2 2;"), LacedHoles::alike, "3");
        answers(18, ALIKE, "four HOLES by law 2", on("rows 2 2;law 2;"), LacedHoles::alike, "2");
        answers(18, ALIKE, "six HOLES", on("rows 3 3;"), LacedHoles::alike, "24");
        answers(18, ALIKE, "six HOLES by law 1", on("rows 3 3;law 1;"), LacedHoles::alike, "16");
        answers(18, ALIKE, "eight HOLES by law 1", on("rows 4 4;law 1;"), LacedHoles::alike, "328");
        answers(18, ALIKE, "eight HOLES by law 2", on("rows 4 4;law 2;"), LacedHoles::alike, "54");
        String one = "ROUNDS are ALIKE, if one so becomes the other";
        answers(18, one, "the four HOLES' three are each alone", on("rows 2 2;"), LacedHoles::alike, "3");
        answers(18, one, "of the six HOLES' sixty", on("rows 3 3;"), LacedHoles::alike, "24");
        answers(18, ALIKE, "asked again", with(on("rows 3 3;"), LacedHoles::alike), LacedHoles::alike, "24");
        answers(18, ALIKE, "a PICTURE does not count",
            with(with(on("rows 3 3;"), x -> x.see(0, 1) + x.see(2, 3)), LacedHoles::guess), LacedHoles::alike, "24");
        answers(18, ALIKE, "none is lawful", on("rows 3 3;law 2;"), LacedHoles::alike, "0");
        answers(18, NOT_ALIKE, "the most HOLES, 8", on("rows 4 4;"), LacedHoles::alike, "720");
        answers(18, NOT_ALIKE, "more, 10", on("rows 5 5;"), LacedHoles::alike, NONE);
        answers(18, NOT_ALIKE, "the most that there may be", fresh(), LacedHoles::alike, NONE);
        answers(18, NOT_ALIKE, "one more on the left", on("rows 4 3;"), LacedHoles::alike, NONE);
        answers(18, NOT_ALIKE, "one more on the right", on("rows 3 4;"), LacedHoles::alike, NONE);
        answers(18, NOT_ALIKE, "unlike, of 8 together", on("rows 5 3;"), LacedHoles::alike, NONE);
        answers(18, NOT_ALIKE, "unlike, two HOLES are not torn", on("rows 1 2;torn 0;"), LacedHoles::alike, NONE);
        answers(18, NOT_ALIKE, "the first is torn", on("rows 4 4;torn 0;"), LacedHoles::alike, NONE);
        answers(18, NOT_ALIKE, "the last is torn", on("rows 4 4;torn 7;"), LacedHoles::alike, NONE);
        answers(18, NOT_ALIKE, "ten HOLES of which two are torn", on("rows 5 5;torn 4;torn 9;"), LacedHoles::alike, NONE);
        answers(18, NOT_ALIKE, "all are torn", on("rows 1 1;torn 0;torn 1;"), LacedHoles::alike, NONE);
    }

    // ---- promises 20 and 21

    private static void twoLaces() {
        // Holes 0 to 7 are whole, 8 is torn, there are no others.
        int[] wrong = {256, 7 + 256, 512, 7 + 512, 7 + 4096, 7 | Integer.MIN_VALUE, -1, Integer.MIN_VALUE, Integer.MAX_VALUE};
        for (int colour : wrong) {
            refused(20, WRONG_COLOUR, "two(" + colour + ")", laden(), x -> x.two(colour), ARGUMENT);
        }
        refused(20, WRONG_COLOUR, "one more than the last of twelve", fresh(), x -> x.two(63 + 4096), ARGUMENT);
        Supplier<LacedHoles> six = on("rows 3 3;apart 30 40;");
        answers(20, TWO, "three and three", six, x -> x.two(7), "320000");
        answers(20, TWO, "the other three", six, x -> x.two(56), "320000");
        answers(20, TWO, "the last HOLE among them", six, x -> x.two(32 + 16 + 4), "240000");
        answers(20, TWO, "three and nine", fresh(), x -> x.two(7), "317082");
        answers(20, TWO, "six and six", fresh(), x -> x.two(63), "400000");
        answers(20, TWO, "torn ones are not among the others", on("rows 3 4;apart 30 40;torn 6;"), x -> x.two(7), "320000");
        answers(20, TWO, "what is cut is the sum, not each", on("rows 3 3;"), x -> x.two(11), "172111");
        answers(20, TWO, "the LENGTH of lawful ones", on("rows 4 4;apart 99 1;law 2;"), x -> x.two(3 + 48), "400000");
        answers(20, CANNOT, "two HOLES", six, x -> x.two(3), NONE);
        answers(20, CANNOT, "two others", six, x -> x.two(15), NONE);
        answers(20, CANNOT, "no HOLES", six, x -> x.two(0), NONE);
        answers(20, CANNOT, "no others", six, x -> x.two(63), NONE);
        answers(20, CANNOT, "two others that are not torn", on("rows 3 3;torn 0;"), x -> x.two(14), NONE);
        answers(20, CANNOT, "the colour is not lawful", on("rows 4 3;law 1;"), x -> x.two(7), NONE);
        answers(20, CANNOT, "the others are not lawful", on("rows 4 3;law 1;"), x -> x.two(127 - 7), NONE);
        answers(20, CANNOT, "both are lawful", on("rows 4 3;apart 99 1;law 1;"), x -> x.two(3 + 16) > 0 ? 1 : 0, "1");
        answers(20, CANNOT, "all are torn", on("rows 1 1;torn 0;torn 1;"), x -> x.two(0), NONE);
        refused(20, CANNOT, "nothing becomes the WAY", laden(), x -> x.two(3), NONE);
    }

    private static void colours() {
        answers(21, HALF, "six HOLES, the least of two alike", on("rows 3 3;apart 30 40;"), LacedHoles::colours, "11");
        answers(21, HALF, "rows are far apart", on("rows 3 3;apart 99 1;"), LacedHoles::colours, "7");
        answers(21, HALF, "five HOLES: two are too few", on("rows 3 2;"), LacedHoles::colours, NONE);
        answers(21, HALF, "seven HOLES: three, cut, on the left", on("rows 3 4;apart 99 1;"), LacedHoles::colours, "7");
        answers(21, HALF, "seven HOLES: three, cut, on the right", on("rows 4 3;apart 99 1;"), LacedHoles::colours, "112");
        answers(21, HALF, "eight HOLES, one torn: three", on("rows 4 4;apart 99 1;torn 0;"), LacedHoles::colours, "14");
        answers(21, HALF, "eight HOLES, the last torn: three", on("rows 4 4;apart 99 1;torn 7;"), LacedHoles::colours, "112");
        answers(21, HALF, "six HOLES, one torn", on("rows 3 3;torn 5;"), LacedHoles::colours, NONE);
        answers(21, HALF, "all twelve", on("apart 99 1;"), LacedHoles::colours, "63");
        answers(21, HALF, "two HOLES", on("rows 1 1;"), LacedHoles::colours, NONE);
        answers(21, HALF, "all are torn", on("rows 1 1;torn 0;torn 1;"), LacedHoles::colours, NONE);
        answers(21, HALF, "none is lawful", on("rows 3 3;law 2;"), LacedHoles::colours, NONE);
        answers(21, HALF, "by law 2, two each", on("rows 4 4;apart 99 1;law 2;"), LacedHoles::colours, "51");
        refused(21, HALF, "nothing becomes the WAY", laden(), LacedHoles::colours, "99");
    }

    // ---- promise 32

    private static void drawnIs(String edge, int seed, int number) {
        edge(32, DRAWN, edge, () -> {
            LacedHoles x = on(RECTANGLE).get();
            is("draw", x.draw(seed), 4);
            is("number", x.number(), number);
        });
    }

    private static void drawn() {
        drawnIs("0", 0, 0);
        drawnIs("1, by 2, cut", 1, 0);
        drawnIs("2", 2, 1);
        drawnIs("the last number", 4, 2);
        drawnIs("the last number, cut", 5, 2);
        drawnIs("round to the first", 6, 0);
        drawnIs("-1: the lowest 31 bits are 2 to the power 31, less 1", -1, 0);
        drawnIs("-2", -2, 0);
        drawnIs("-3", -3, 2);
        drawnIs("the greatest number", Integer.MAX_VALUE, 0);
        drawnIs("the greatest number less 2", Integer.MAX_VALUE - 2, 2);
        drawnIs("the least number", Integer.MIN_VALUE, 0);
        drawnIs("the least number and 2", Integer.MIN_VALUE + 2, 1);
        edge(32, "of c lawful ROUNDS of all HOLES that are not torn", "torn ones", () -> {
            LacedHoles x = on(RECTANGLE + "torn 1;").get();
            is("draw", x.draw(12345), 3);
            holesAre(x, 0, 2, 3);
        });
        edge(32, "of c lawful ROUNDS of all HOLES that are not torn", "the last lawful one of all", () -> {
            LacedHoles x = on("law 2;").get();
            is("draw", x.draw(2 * 86399 + 1), 12);
            is("number", x.number(), 86399);
            is("draw", x.draw(2 * 86400), 12);
            is("number", x.number(), 0);
        });
        ToLongFunction<LacedHoles> draw = x -> x.draw(2);
        refused(32, THERE_IS_NONE, "none is lawful", on("rows 2 1;law 2;", "2 1 0"), draw, NONE);
        refused(32, THERE_IS_NONE, "two HOLES", on("rows 1 1;"), draw, NONE);
        refused(32, THERE_IS_NONE, "two HOLES that are not torn", on("rows 3 3;torn 0;torn 1;torn 4;torn 5;"), draw, NONE);
        refused(32, THERE_IS_NONE, "all are torn", on("rows 1 1;torn 0;torn 1;"), draw, NONE);
    }
}
