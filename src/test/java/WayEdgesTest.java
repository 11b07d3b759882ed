import java.util.function.Supplier;

/** The boundaries of SPANS and of the WAY: promises 7 to 11, 19, 26 to 28. */
public final class WayEdgesTest extends Edges {
    private static final String RECTANGLE = "rows 2 2;apart 3 4;";
    private static final String ALL = "0 1 2 3 4 5 6 7 8 9 10 11";
    private static final String NO_HOLE = "IndexOutOfBoundsException: no such HOLE (so below, ahead of others)";
    private static final String ONE_HOLE = "IllegalArgumentException: one HOLE";
    private static final String ITH = "The i-th HOLE of the WAY; NONE: none such.";
    private static final String AGAINST = "The first HOLE of the WAY (as told) that is against the LAW; NONE";
    private static final String NO_WAY = "NoSuchElementException: there is no WAY (so below)";
    private static final String ANOTHER = "IllegalArgumentException: another what (so below)";
    private static final String NUMBER = "The number (from 0 on) of the WAY's ROUND among lawful ones of its HOLES; NONE: it is not lawful.";
    private static final String CUT = "MEASURE: 1,000 times a LENGTH, cut";
    private static final String PULL_CUT = "PULL is told times 1,000,000, cut";
    private static final String NO_LONGER = "4 whether it is no longer than the lace (1, 0)";
    private static final String TURNS = "TURNS: HOLES at which it goes on in the same row, from that row";
    private static final String ITSELF = "How many of the four ways to turn or mirror (none is one) make the WAY of itself";
    private static final String UNLIKE = "NONE: rows are unlike, or some is torn";
    private static final String SEEN = "(1 by its 1st SPAN, 2 by its 2nd; 0: not)";
    private static final String EVEN = "SEEN from outside is each second SPAN of a ROUND of an even number of HOLES";
    private static final String FROM_FIRST = "The WAY told is from its first HOLE on";
    private static final String KNOT = "SPANS (from 0 on; the last one home) in which it may be that lies E (0 to 999) or less from the midst";
    private static final String KNOT_WRONG = "IllegalArgumentException: E, what";
    private static final String WEAR = "WEAR of a HOLE in a ROUND: 1, and 1 more for each SPAN along that it has";
    private static final String NOT_IN_IT = "WEAR of a HOLE in the WAY (0: it is not in it)";

    public static void main(String[] args) {
        spans();
        spansCut();
        holes();
        judged();
        measures();
        laces();
        numbers();
        itself();
        seen();
        knots();
        knotsOfRoots();
        wears();
        end(7, 8, 9, 10, 11, 19, 26, 27, 28);
    }

    // ---- promise 7

    private static void spans() {
        int[][] none = {{-1, 0}, {0, -1}, {12, 0}, {0, 12}, {Integer.MIN_VALUE, 0}, {0, Integer.MAX_VALUE}};
        for (int[] ends : none) {
            refused(7, NO_HOLE, "span(" + ends[0] + ", " + ends[1] + ")", fresh(), x -> x.span(ends[0], ends[1]), INDEX);
        }
        refused(7, NO_HOLE, "one more than the last of few", laden(), x -> x.span(8, 9), INDEX);
        refused(7, NO_HOLE, "one HOLE, but none such: one less", fresh(), x -> x.span(-1, -1), INDEX);
        refused(7, NO_HOLE, "one HOLE, but none such: one more", fresh(), x -> x.span(12, 12), INDEX);
        refused(7, ONE_HOLE, "the first", laden(), x -> x.span(0, 0), ARGUMENT);
        refused(7, ONE_HOLE, "the last", fresh(), x -> x.span(11, 11), ARGUMENT);
        refused(7, ONE_HOLE, "a torn one", laden(), x -> x.span(8, 8), ARGUMENT);
        answers(7, NO_HOLE, "the first and the last", on("apart 12 1;"), x -> x.span(0, 11), "13000");
        answers(7, NO_HOLE, "the last and the first", on("apart 12 1;"), x -> x.span(11, 0), "13000");
        answers(7, NO_HOLE, "the only two", on("rows 1 1;apart 7 9;"), x -> x.span(0, 1), "7000");
        answers(7, NO_HOLE, "torn ones are HOLES", on("torn 0;torn 6;"), x -> x.span(0, 6), "30000");
        String lie = "the left row 0 to N less 1, the right one from N on, each from the top on";
        answers(7, lie, "N less 1 is on the left", on("rows 2 3;apart 3 4;"), x -> x.span(0, 1), "4000");
        answers(7, lie, "N is on the right, at its top", on("rows 2 3;apart 3 4;"), x -> x.span(0, 2), "3000");
        answers(7, lie, "N is as far from N less 1 as its row's place", on("rows 2 3;apart 3 4;"), x -> x.span(1, 2), "5000");
        answers(7, lie, "the last on the right", on("rows 2 3;apart 3 4;"), x -> x.span(1, 4), "5000");
        String wide = "the i-th of a row lies at i times B along, the right row at A across";
        answers(7, wide, "the least A", on("apart 1 50;"), x -> x.span(5, 11), "1000");
        answers(7, wide, "the greatest A", on("apart 99 50;"), x -> x.span(11, 5), "99000");
        answers(7, wide, "A is nothing to a SPAN along, on the right", on("rows 2 3;apart 99 7;"), x -> x.span(2, 4), "14000");
        answers(7, "the i-th of a row lies at i times B along", "0 and the last", on("apart 1 99;"), x -> x.span(0, 5), "495000");
    }

    private static void spansCut() {
        answers(7, CUT, "the least", on("apart 1 1;"), x -> x.span(0, 6), "1000");
        answers(7, CUT, "the greatest", on("apart 99 99;"), x -> x.span(0, 11), "504802");
        answers(7, CUT, "a root of 2", on("apart 1 1;"), x -> x.span(0, 7), "1414");
        answers(7, CUT, "next to a whole one below it: a root of 9,800", on("apart 98 14;"), x -> x.span(0, 7), "98994");
        answers(7, CUT, "next to a whole one above it: a root of 9,802", on("apart 99 1;"), x -> x.span(0, 7), "99005");
        int[][] whole = {{4, 3, 5}, {12, 5, 13}, {24, 7, 25}, {15, 8, 17}, {99, 20, 101}, {84, 13, 85}, {60, 91, 109}};
        for (int[] sides : whole) {
            answers(7, CUT, "a root that is whole, " + sides[2], on("apart " + sides[0] + " " + sides[1] + ";"),
                x -> x.span(0, 7), sides[2] + "000");
        }
    }

    // ---- promises 8 and 9

    private static void holes() {
        Supplier<LacedHoles> three = on("", "11 0 5");
        answers(8, ITH, "the first", three, x -> x.at(0), "11");
        answers(8, ITH, "the last", three, x -> x.at(2), "5");
        answers(8, ITH, "one less", three, x -> x.at(-1), NONE);
        answers(8, ITH, "one more", three, x -> x.at(3), NONE);
        answers(8, ITH, "the least number", three, x -> x.at(Integer.MIN_VALUE), NONE);
        answers(8, ITH, "the greatest number", three, x -> x.at(Integer.MAX_VALUE), NONE);
        answers(8, ITH, "the last of twelve", on("", ALL), x -> x.at(11), "11");
        answers(8, ITH, "one more than twelve", on("", ALL), x -> x.at(12), NONE);
        answers(8, ITH, "no WAY", fresh(), x -> x.at(0), NONE);
        answers(8, ITH, "as told, from its first HOLE on", on("", "7 3 9"), x -> x.at(0) * 10000 + x.at(1) * 100 + x.at(2), "70309");
    }

    private static void judged() {
        refused(9, NO_WAY, "law 0", fresh(), LacedHoles::judge, NO_SUCH);
        refused(9, NO_WAY, "law 2, a WAY of the BOOT before", with(on("law 2;", "0 1 7 6"), x -> Texts.boot(x, "law 2;")),
            LacedHoles::judge, NO_SUCH);
        answers(9, AGAINST, "law 0: any, all along", on("", "0 1 2"), LacedHoles::judge, NONE);
        answers(9, AGAINST, "law 0: any, all across", on("", "0 6 1 7"), LacedHoles::judge, NONE);
        String one = "1: each HOLE has a SPAN across (to the other row)";
        answers(9, one, "none at the first: its SPAN home counts", on("law 1;", "1 2 6 0"), LacedHoles::judge, "1");
        answers(9, one, "none at the last: its SPAN home counts", on("law 1;", "0 6 1 2"), LacedHoles::judge, "2");
        answers(9, one, "just one at the first, by its SPAN home", on("law 1;", "0 1 6"), LacedHoles::judge, NONE);
        answers(9, one, "two at each", on("law 1;", "0 6 1 7"), LacedHoles::judge, NONE);
        answers(9, one, "none at any", on("law 1;", "2 1 0"), LacedHoles::judge, "2");
        String just = "2: each HOLE has just one SPAN across";
        answers(9, just, "one each", on("law 2;", "0 1 7 6"), LacedHoles::judge, NONE);
        answers(9, just, "two at the first", on("law 2;", "0 6 1 7"), LacedHoles::judge, "0");
        answers(9, just, "none at the first", on("law 2;", "0 1 2"), LacedHoles::judge, "0");
        answers(9, just, "none at the last", on("law 2;", "0 6 7 1 2"), LacedHoles::judge, "2");
        answers(9, just, "two at the last", on("law 2;", "0 1 6"), LacedHoles::judge, "6");
        answers(9, AGAINST, "the first of two as told, not as its ROUND", on("law 2;", "0 6 1 2"), LacedHoles::judge, "6");
        answers(9, AGAINST, "the other way round", on("law 2;", "2 1 6 0"), LacedHoles::judge, "2");
    }

    // ---- promise 10

    private static void measures() {
        for (int what = 0; what <= 4; what++) {
            int asked = what;
            refused(10, NO_WAY, "measure(" + what + ")", fresh(), x -> x.measure(asked), NO_SUCH);
        }
        refused(10, ANOTHER, "one less than the first", laden(), x -> x.measure(-1), ARGUMENT);
        refused(10, ANOTHER, "one more than the last", laden(), x -> x.measure(5), ARGUMENT);
        refused(10, ANOTHER, "the least number", laden(), x -> x.measure(Integer.MIN_VALUE), ARGUMENT);
        refused(10, ANOTHER, "the greatest number", laden(), x -> x.measure(Integer.MAX_VALUE), ARGUMENT);
        String round = "goes through each of them once, and home to the first";
        answers(10, round, "the fewest HOLES, LENGTH", on(RECTANGLE, "0 1 2"), x -> x.measure(0), "12000");
        answers(10, round, "the fewest HOLES, PULL", on(RECTANGLE, "0 2 1"), x -> x.measure(1), "1600000");
        answers(10, round, "the most HOLES", on("", "0 1 2 3 4 5 11 10 9 8 7 6"), x -> x.measure(0), "260000");
        answers(10, "PULL of a ROUND: of its SPANS across A by their LENGTH, together", "all across", on(RECTANGLE, "0 2 1 3"),
            x -> x.measure(1), "3200000");
        answers(10, CUT, "the SPAN home counts", on(RECTANGLE, "0 1 2"), x -> x.measure(0), "12000");
        answers(10, CUT, "what is cut is the sum, not each", on("", "0 7 1 6"), x -> x.measure(0), "132111");
        answers(10, CUT, "a whole sum", on("apart 12 5;", "0 7 1 6"), x -> x.measure(0), "50000");
        answers(10, CUT, "the least", on("apart 1 1;", "0 1 2"), x -> x.measure(0), "4000");
        answers(10, PULL_CUT, "no SPAN across", on("", "0 1 2"), x -> x.measure(1), "0");
        answers(10, PULL_CUT, "straight across is a whole one", on("apart 1 99;", "0 1 7 6"), x -> x.measure(1), "2000000");
        answers(10, PULL_CUT, "12 by 13", on("apart 12 5;", "0 1 6"), x -> x.measure(1), "1923076");
        answers(10, PULL_CUT, "what is cut is the sum, not each", on("", "0 7 2 9 4 10"), x -> x.measure(1), "4679324");
        answers(10, PULL_CUT, "a sum of which nothing is to be cut: twice 3 by 5, and 2", on(RECTANGLE, "0 3 1 2"), x -> x.measure(1), "3200000");
        answers(10, "2 SPANS across", "none", on("", "0 1 2"), x -> x.measure(2), "0");
        answers(10, "2 SPANS across", "the one home, too", on("", "0 1 6"), x -> x.measure(2), "2");
        answers(10, "2 SPANS across", "all twelve", on("", "0 6 1 7 2 8 3 9 4 10 5 11"), x -> x.measure(2), "12");
        answers(10, TURNS, "none", on("", "0 6 1 7"), x -> x.measure(3), "0");
        answers(10, TURNS, "all", on("", "2 1 0"), x -> x.measure(3), "3");
        answers(10, TURNS, "the first HOLE, by the SPAN home", on("", "1 2 6 0"), x -> x.measure(3), "1");
        answers(10, TURNS, "the last HOLE, by the SPAN home", on("", "0 6 1 2"), x -> x.measure(3), "1");
        answers(10, TURNS, "all but four of twelve", on("", "0 1 2 3 4 5 11 10 9 8 7 6"), x -> x.measure(3), "8");
    }

    private static void laces() {
        answers(10, NO_LONGER, "as long", on(RECTANGLE + "lace 12;", "0 1 2"), x -> x.measure(4), "1");
        answers(10, NO_LONGER, "one longer", on(RECTANGLE + "lace 11;", "0 1 2"), x -> x.measure(4), "0");
        answers(10, NO_LONGER, "one shorter", on(RECTANGLE + "lace 13;", "0 1 2"), x -> x.measure(4), "1");
        answers(10, NO_LONGER, "longer by less than one", on("apart 1 1;lace 3;", "0 1 6"), x -> x.measure(4), "0");
        answers(10, NO_LONGER, "shorter by less than one", on("apart 1 1;lace 4;", "0 1 6"), x -> x.measure(4), "1");
        answers(10, NO_LONGER, "a sum of two whole roots, as long", on("apart 12 5;lace 50;", "0 7 1 6"), x -> x.measure(4), "1");
        answers(10, NO_LONGER, "longer by less than a millionth", on("apart 61 94;lace 962;", "0 1 4 11"), x -> x.measure(4), "0");
        answers(10, NO_LONGER, "shorter by less than a millionth", on("apart 36 84;lace 1022;", "0 8 4 1 9"), x -> x.measure(4), "1");
        answers(10, CUT, "more than a whole one by less than a millionth", on("apart 61 94;", "0 1 4 11"), x -> x.measure(0), "962000");
        answers(10, CUT, "less than a whole one by less than a millionth", on("apart 36 84;", "0 8 4 1 9"), x -> x.measure(0), "1021999");
        answers(10, NO_LONGER, "the longest lace", on("apart 99 99;", "0 11 1 10 2 9 3 8 4 7 5 6"), x -> x.measure(4), "1");
        answers(10, NO_LONGER, "the shortest lace", on("apart 1 1;lace 1;", "0 1 2"), x -> x.measure(4), "0");
    }

    // ---- promise 11

    private static void numbers() {
        refused(11, NO_WAY, "law 0", fresh(), LacedHoles::number, NO_SUCH);
        answers(11, NUMBER, "the first of all", on("", ALL), LacedHoles::number, "0");
        answers(11, NUMBER, "the last of all", on("", "0 10 9 8 7 6 5 4 3 2 1 11"), LacedHoles::number, "19958399");
        answers(11, NUMBER, "the last but one", on("", "0 10 9 8 7 6 5 4 3 1 2 11"), LacedHoles::number, "19958398");
        answers(11, NUMBER, "the only one of three HOLES", on("", "11 3 7"), LacedHoles::number, "0");
        answers(11, NUMBER, "the last of four HOLES", on("", "2 9 4 11"), LacedHoles::number, "2");
        answers(11, NUMBER, "not lawful by law 1", on("law 1;", "0 1 2"), LacedHoles::number, NONE);
        answers(11, NUMBER, "not lawful by law 2", on("law 2;", "0 1 6"), LacedHoles::number, NONE);
        answers(11, NUMBER, "lawful but for its SPAN home", on("law 2;", "0 6 7 1 2 8"), LacedHoles::number, NONE);
        answers(11, NUMBER, "the first lawful one", on(RECTANGLE + "law 2;", "0 1 2 3"), LacedHoles::number, "0");
        answers(11, NUMBER, "the last lawful one", on(RECTANGLE + "law 2;", "0 1 3 2"), LacedHoles::number, "1");
        answers(11, NUMBER, "the last of 42 by law 1", on("rows 3 3;law 1;", "0 4 3 2 1 5"), LacedHoles::number, "41");
        String told = "A ROUND is told from its least HOLE on; of both directions that is its own in which the second HOLE is less than the last one";
        for (String way : new String[] {"0 2 1 3", "2 1 3 0", "1 3 0 2", "3 0 2 1", "3 1 2 0", "1 2 0 3", "2 0 3 1", "0 3 1 2"}) {
            answers(11, told, "way " + way, on(RECTANGLE, way), LacedHoles::number, "2");
        }
        answers(11, told, "the WAY stays as told", with(on(RECTANGLE, "3 1 2 0"), x -> (int) x.number()), x -> x.at(0), "3");
    }

    // ---- promise 19

    private static void itself() {
        refused(19, NO_WAY, "like rows", fresh(), LacedHoles::itself, NO_SUCH);
        refused(19, NO_WAY, "unlike rows", on("rows 2 3;"), LacedHoles::itself, NO_SUCH);
        refused(19, NO_WAY, "a torn HOLE", on("torn 2;"), LacedHoles::itself, NO_SUCH);
        answers(19, ITSELF, "none alone", on("", "0 1 6"), LacedHoles::itself, "1");
        String turned = "TURNED (each row's top is its end), MIRRORED (rows change), both, or none make a ROUND of another one";
        answers(19, turned, "the middle of a row of three stays", on("rows 3 3;", "1 3 5"), LacedHoles::itself, "2");
        answers(19, turned, "the shortest rows: mirrored", on("rows 2 2;", "0 3 1 2"), LacedHoles::itself, "4");
        answers(19, ITSELF, "by turning", on("", "0 1 4 5"), LacedHoles::itself, "2");
        answers(19, ITSELF, "by mirroring", on("", "0 1 7 6"), LacedHoles::itself, "2");
        answers(19, ITSELF, "by both together", on("", "0 1 11 10"), LacedHoles::itself, "2");
        answers(19, ITSELF, "all four", on("", "0 1 2 3 4 5 11 10 9 8 7 6"), LacedHoles::itself, "4");
        answers(19, ITSELF, "the same HOLES, but other SPANS", on("", "0 1 4 5 10 7 6 11"), LacedHoles::itself, "1");
        answers(19, ITSELF, "from any of its HOLES on, in any direction", on("", "7 6 11 10 9 8 2 3 4 5 0 1"), LacedHoles::itself, "2");
        answers(19, ITSELF, "the fewest HOLES, the shortest rows", on("rows 2 2;", "0 2 1"), LacedHoles::itself, "1");
        answers(19, UNLIKE, "one HOLE fewer on the right", on("rows 6 5;", "0 1 2"), LacedHoles::itself, NONE);
        answers(19, UNLIKE, "one HOLE fewer on the left", on("rows 5 6;", "0 1 2"), LacedHoles::itself, NONE);
        answers(19, UNLIKE, "the first is torn", on("torn 0;", "1 2 3"), LacedHoles::itself, NONE);
        answers(19, UNLIKE, "the last is torn", on("torn 11;", "0 1 2"), LacedHoles::itself, NONE);
        answers(19, UNLIKE, "both ends are torn", on("rows 3 3;torn 0;torn 5;", "1 2 3"), LacedHoles::itself, NONE);
    }

    // ---- promise 26

    private static Supplier<LacedHoles> pictured(String way, int... ends) {
        return with(on("rows 3 3;", way), x -> {
            for (int i = 0; i + 1 < ends.length; i += 2) {
                x.see(ends[i], ends[i + 1]);
            }
            return 0;
        });
    }

    private static void seen() {
        refused(26, NO_WAY, "no PICTURE", fresh(), LacedHoles::seen, NO_SUCH);
        refused(26, NO_WAY, "a PICTURE", with(fresh(), x -> x.see(0, 1)), LacedHoles::seen, NO_SUCH);
        answers(26, SEEN, "by its 1st", pictured("0 1 4 3", 0, 1, 3, 4), LacedHoles::seen, "1");
        answers(26, SEEN, "by its 2nd, the one home among them", pictured("0 1 4 3", 3, 0, 4, 1), LacedHoles::seen, "2");
        String second = "the 1st, 3rd, .. of it as told, or else the 2nd, 4th, ...";
        answers(26, second, "the 1st, 3rd, 5th", pictured("0 1 2 5 4 3", 4, 3, 2, 5, 1, 0), LacedHoles::seen, "1");
        answers(26, second, "the 2nd, 4th, 6th", pictured("0 1 2 5 4 3", 1, 2, 4, 5, 0, 3), LacedHoles::seen, "2");
        answers(26, second, "the 1st, 3rd, but not the 5th", pictured("0 1 2 5 4 3", 0, 1, 2, 5), LacedHoles::seen, "0");
        answers(26, FROM_FIRST, "one HOLE on, it is by its 2nd", pictured("1 4 3 0", 0, 1, 3, 4), LacedHoles::seen, "2");
        answers(26, FROM_FIRST, "one HOLE on, it is by its 1st", pictured("1 4 3 0", 3, 0, 4, 1), LacedHoles::seen, "1");
        answers(26, FROM_FIRST, "the other direction", pictured("0 3 4 1", 0, 1, 3, 4), LacedHoles::seen, "2");
        answers(26, SEEN, "no PICTURE", pictured("0 1 4 3"), LacedHoles::seen, "0");
        answers(26, SEEN, "a SPAN too few", pictured("0 1 4 3", 0, 1), LacedHoles::seen, "0");
        answers(26, SEEN, "a SPAN too many", pictured("0 1 4 3", 0, 1, 3, 4, 2, 5), LacedHoles::seen, "0");
        answers(26, SEEN, "HOLES alike, but other SPANS", pictured("0 1 4 3", 0, 4, 1, 3), LacedHoles::seen, "0");
        answers(26, SEEN, "as many SPANS, but other HOLES", pictured("0 1 4 3", 0, 1, 2, 5), LacedHoles::seen, "0");
        answers(26, SEEN, "one of each kind", pictured("0 1 2 5 4 3", 0, 1, 2, 5, 4, 3), LacedHoles::seen, "1");
        answers(26, SEEN, "one SPAN of three is another", pictured("0 1 2 5 4 3", 0, 1, 2, 4, 5, 3), LacedHoles::seen, "0");
        answers(26, EVEN, "an odd number, a SPAN too few", pictured("0 1 4", 0, 1), LacedHoles::seen, "0");
        answers(26, EVEN, "an odd number, a HOLE too many", pictured("0 1 4 3 2", 0, 1, 4, 3), LacedHoles::seen, "0");
        answers(26, EVEN, "an odd number, a HOLE too few", pictured("0 1 4", 0, 1, 4, 3), LacedHoles::seen, "0");
        edge(26, EVEN, "all twelve", () -> {
            LacedHoles x = on("", ALL).get();
            for (int hole = 0; hole < 12; hole += 2) {
                x.see(hole + 1, hole);
            }
            is("seen", x.seen(), 1);
            Texts.way(x, "1 2 3 4 5 6 7 8 9 10 11 0");
            is("seen from 1 on", x.seen(), 2);
        });
    }

    // ---- promise 27

    private static void knots() {
        refused(27, NO_WAY, "allowed numbers", fresh(), x -> x.knot(0, 0), NO_SUCH);
        refused(27, KNOT_WRONG, "E one less than 0", laden(), x -> x.knot(-1, 0), ARGUMENT);
        refused(27, KNOT_WRONG, "E one more than 999", laden(), x -> x.knot(1000, 1), ARGUMENT);
        refused(27, KNOT_WRONG, "E the least number", laden(), x -> x.knot(Integer.MIN_VALUE, 0), ARGUMENT);
        refused(27, KNOT_WRONG, "E the greatest number", laden(), x -> x.knot(Integer.MAX_VALUE, 1), ARGUMENT);
        refused(27, KNOT_WRONG, "what one less than 0", laden(), x -> x.knot(0, -1), ARGUMENT);
        refused(27, KNOT_WRONG, "what one more than 1", laden(), x -> x.knot(999, 2), ARGUMENT);
        int[][] due = {{0, 1, 2}, {1, 1, 2}, {2, 1, 2}, {3, 0, 2}, {4, 0, 3}, {5, 0, 3}, {998, 0, 3}, {999, 0, 3}};
        for (int[] row : due) {
            String edge = "SPANS of 4, 3, 4, 3, E " + row[0];
            answers(27, KNOT, edge + ", the first", on(RECTANGLE, "0 1 3 2"), x -> x.knot(row[0], 0), "" + row[1]);
            answers(27, KNOT, edge + ", the last", on(RECTANGLE, "0 1 3 2"), x -> x.knot(row[0], 1), "" + row[2]);
        }
        int[][] within = {{0, 1, 1}, {1, 0, 1}, {2, 0, 1}, {3, 0, 2}};
        for (int[] row : within) {
            String edge = "SPANS of 5, 4, 3, E " + row[0];
            answers(27, KNOT, edge + ", the first", on(RECTANGLE, "1 2 3"), x -> x.knot(row[0], 0), "" + row[1]);
            answers(27, KNOT, edge + ", the last", on(RECTANGLE, "1 2 3"), x -> x.knot(row[0], 1), "" + row[2]);
        }
        answers(27, KNOT, "the SPAN home alone: more than half of all", on("rows 1 3;apart 1 99;", "0 1 3"), x -> x.knot(0, 0), "1");
        String along = "from the midst of its LENGTH, along the lace: the first, the last";
        answers(27, along, "a SPAN near it as one sees, far by the lace: the first", on("apart 1 50;", "0 2 1 8 7 6"), x -> x.knot(10, 0), "1");
        answers(27, along, "a SPAN near it as one sees, far by the lace: the last", on("apart 1 50;", "0 2 1 8 7 6"), x -> x.knot(10, 1), "2");
        answers(27, FROM_FIRST, "one HOLE on", on(RECTANGLE, "1 3 2 0"), x -> x.knot(3, 0) * 10 + x.knot(3, 1), "13");
    }

    private static void knotsOfRoots() {
        answers(27, KNOT, "the midst at a HOLE, by roots: the first", on("", "0 7 1 6"), x -> x.knot(0, 0), "1");
        answers(27, KNOT, "the midst at a HOLE, by roots: the last", on("", "0 7 1 6"), x -> x.knot(0, 1), "2");
        answers(27, KNOT, "29 does not reach to the first SPAN, 30 just does, by roots", on("", "0 7 1 6"), x -> x.knot(29, 0) * 10 + x.knot(30, 0), "10");
        answers(27, KNOT, "36 does not reach to the last SPAN, 37 does, by roots", on("", "0 7 1 6"), x -> x.knot(36, 1) * 10 + x.knot(37, 1), "23");
        Supplier<LacedHoles> longest = on("apart 99 99;", "0 11 1 10 2 9 3 8 4 7 5 6");
        answers(27, KNOT, "a lace so long that 999 does not reach its begin", longest, x -> x.knot(999, 0) > 0 ? 1 : 0, "1");
        answers(27, KNOT, "a lace so long that 999 does not reach its end", longest, x -> x.knot(999, 1) < 11 ? 1 : 0, "1");
    }

    // ---- promise 28

    private static void wears() {
        refused(28, NO_HOLE, "one less than the first", laden(), x -> x.wear(-1), INDEX);
        refused(28, NO_HOLE, "one more than the last", laden(), x -> x.wear(9), INDEX);
        refused(28, NO_HOLE, "one more than twelve", fresh(), x -> x.wear(12), INDEX);
        refused(28, NO_HOLE, "the least number, no WAY", fresh(), x -> x.wear(Integer.MIN_VALUE), INDEX);
        refused(28, NO_HOLE, "the greatest number", laden(), x -> x.wear(Integer.MAX_VALUE), INDEX);
        refused(28, NO_WAY, "the first HOLE", fresh(), x -> x.wear(0), NO_SUCH);
        refused(28, NO_WAY, "the last HOLE", fresh(), x -> x.wear(11), NO_SUCH);
        refused(28, NO_WAY, "a torn HOLE", on("torn 3;"), x -> x.wear(3), NO_SUCH);
        answers(28, WEAR, "no SPAN along", on("", "0 6 1 7"), x -> x.wear(6), "1");
        answers(28, WEAR, "one SPAN along", on("", "0 1 7 6"), x -> x.wear(1), "2");
        answers(28, WEAR, "two SPANS along", on("", "0 1 2"), x -> x.wear(1), "3");
        answers(28, WEAR, "of the first, by the SPAN home", on("", "1 6 2"), x -> x.wear(1), "2");
        answers(28, WEAR, "of the last, by the SPAN home", on("", "1 6 2"), x -> x.wear(2), "2");
        answers(28, WEAR, "of the last HOLE of all", on("", "10 11 9"), x -> x.wear(11), "3");
        answers(28, NOT_IN_IT, "another", on("", "0 6 1"), x -> x.wear(2), "0");
        answers(28, NOT_IN_IT, "a torn one", on("torn 11;", "0 6 1"), x -> x.wear(11), "0");
    }
}
