import java.util.function.Supplier;
import java.util.function.ToLongFunction;

/** The boundaries of what is held: PICTURE, KEPT ones, IMAGES, sums: promises 22 to 25, 29 to 31, 33 to 35. */
public final class KeptEdgesTest extends Edges {
    private static final String NO_HOLE = "IndexOutOfBoundsException: no such HOLE (so below, ahead of others)";
    private static final String NO_WAY = "NoSuchElementException: there is no WAY (so below)";
    private static final String SEE = "A SPAN comes to the PICTURE: how many there are";
    private static final String NOT_SEEN = "-1: a HOLE is in it, or torn, or there are 6";
    private static final String ONE_HOLE = "IllegalArgumentException: one HOLE";
    private static final String BLIND = "The PICTURE goes: how many SPANS.";
    private static final String WITHIN = "lawful ROUNDS of just the HOLES of the PICTURE, of which each second SPAN is one of these: how many, the first";
    private static final String AT_LEAST = "A ROUND of some HOLES (3 at least)";
    private static final String NO_GUESS = "NONE: there is none (the WAY stays)";
    private static final String GUESS = "The first of these becomes the WAY: how many HOLES";
    private static final String KEEP = "The WAY is KEPT: how many are; -1: there are 4.";
    private static final String DROP = "KEPT ones go: how many.";
    private static final String SO_MANY = "WEEKS: so many (1 to 12) for 1 to 4 ROUNDS kept";
    private static final String ANOTHER = "IllegalArgumentException: another what (so below)";
    private static final String FIRST_ROW = "of such rows the first (the first one's weeks fewest, then the second's, ..)";
    private static final String ROW = "1 the row as digits to the base 100 (the first the highest)";
    private static final String MOST = "so that the most WEAR of a HOLE in all is least";
    private static final String NONE_KEPT = "NONE: none is KEPT";
    private static final String IMAGE = "An IMAGE of the WAY, the PICTURE, KEPT ones: how many there are; -1: there are 3.";
    private static final String RESTORE = "All is as in the latest IMAGE, which is gone: how many are left; -1: there is none.";
    private static final String SUMS = "0 KEPT, 1 SPANS of the PICTURE, 2 IMAGES, 3 bytes of the TAPE; NONE for others.";

    public static void main(String[] args) {
        seeing();
        notSeen();
        blind();
        within();
        guesses();
        keeping();
        dropping();
        wrongWeeks();
        weeks();
        images();
        imagesOfKept();
        restored();
        sums();
        questions();
        changesOfTheWay();
        calls();
        end(22, 23, 24, 25, 29, 30, 31, 33, 34, 35);
    }

    private static ToLongFunction<LacedHoles> see(int... ends) {
        return x -> {
            long last = 0;
            for (int i = 0; i + 1 < ends.length; i += 2) {
                last = x.see(ends[i], ends[i + 1]);
            }
            return last;
        };
    }

    private static Supplier<LacedHoles> pictured(String boot, int... ends) {
        return with(on(boot), see(ends));
    }

    /** An object whose WAYS, told one after the other, are all KEPT. */
    private static Supplier<LacedHoles> kept(String... ways) {
        return with(on(""), x -> {
            for (String way : ways) {
                Texts.way(x, way);
                x.keep();
            }
            return 0;
        });
    }

    // ---- promises 22 and 23

    private static void seeing() {
        answers(22, SEE, "the first", fresh(), see(0, 11), "1");
        answers(22, SEE, "the second", fresh(), see(0, 11, 10, 1), "2");
        answers(22, SEE, "the sixth, of all twelve", fresh(), see(0, 1, 2, 3, 4, 5, 6, 7, 8, 9, 10, 11), "6");
        answers(22, SEE, "the only one of two HOLES", on("rows 1 1;"), see(1, 0), "1");
        answers(22, SEE, "along, though law 2 asks for others", on("law 2;"), see(0, 5), "1");
        answers(22, SEE, "a HOLE of the WAY", on("", "0 1 2"), see(0, 1), "1");
        answers(22, SEE, "the WAY stays", with(on("", "0 1 2"), see(4, 5)), x -> x.told(7), "3");
        int[][] none = {{-1, 0}, {0, -1}, {9, 0}, {0, 9}, {9, 9}, {-1, -1}, {8, 9}, {Integer.MIN_VALUE, 0}, {0, Integer.MAX_VALUE}};
        for (int[] ends : none) {
            refused(22, NO_HOLE, "see(" + ends[0] + ", " + ends[1] + ")", laden(), see(ends), INDEX);
        }
        refused(22, NO_HOLE, "one more than the last of twelve", fresh(), see(11, 12), INDEX);
        refused(22, NO_HOLE, "with a HOLE that is in it", laden(), see(4, 9), INDEX);
        refused(22, ONE_HOLE, "the first", laden(), see(0, 0), ARGUMENT);
        refused(22, ONE_HOLE, "the last", fresh(), see(11, 11), ARGUMENT);
        refused(22, ONE_HOLE, "a torn one", laden(), see(8, 8), ARGUMENT);
        refused(22, ONE_HOLE, "one that is in it", laden(), see(4, 4), ARGUMENT);
        refused(22, ONE_HOLE, "there are 6", pictured("", 0, 1, 2, 3, 4, 5, 6, 7, 8, 9, 10, 11), see(5, 5), ARGUMENT);
    }

    private static void notSeen() {
        // The picture is of 4 and 3, of 7 and 1; 8 is torn.
        refused(22, NOT_SEEN, "a SPAN again", laden(), see(4, 3), NONE);
        refused(22, NOT_SEEN, "a SPAN again, from its other end", laden(), see(1, 7), NONE);
        refused(22, NOT_SEEN, "the first HOLE is in it", laden(), see(3, 0), NONE);
        refused(22, NOT_SEEN, "the second HOLE is in it", laden(), see(5, 7), NONE);
        refused(22, NOT_SEEN, "both are in it, of two SPANS", laden(), see(4, 1), NONE);
        refused(22, NOT_SEEN, "the first HOLE is torn", laden(), see(8, 0), NONE);
        refused(22, NOT_SEEN, "the second HOLE is torn", laden(), see(0, 8), NONE);
        refused(22, NOT_SEEN, "both are torn", on("torn 0;torn 1;"), see(0, 1), NONE);
        String pairs = "(pairs of HOLES, 6 at most, no HOLE twice)";
        answers(22, pairs, "the 6th", pictured("", 0, 1, 2, 3, 4, 5, 6, 7, 8, 9), see(11, 10), "6");
        refused(22, pairs, "a 7th", pictured("", 0, 1, 2, 3, 4, 5, 6, 7, 8, 9, 10, 11), see(2, 9), NONE);
        refused(22, pairs, "a HOLE twice", pictured("", 0, 1, 2, 3), see(0, 4), NONE);
        refused(22, NOT_SEEN, "there are 6", pictured("", 0, 6, 1, 7, 2, 8, 3, 9, 4, 10, 5, 11), see(0, 1), NONE);
        answers(22, NOT_SEEN, "behind a refused one", with(laden(), see(0, 8)), see(0, 2), "3");
        answers(22, NOT_SEEN, "behind a refused one, its other HOLE", with(laden(), see(3, 0)), see(0, 2), "3");
    }

    private static void blind() {
        answers(23, BLIND, "none", fresh(), LacedHoles::blind, "0");
        answers(23, BLIND, "one", pictured("", 4, 5), LacedHoles::blind, "1");
        answers(23, BLIND, "six", pictured("", 0, 6, 1, 7, 2, 8, 3, 9, 4, 10, 5, 11), LacedHoles::blind, "6");
        answers(23, BLIND, "it is gone", with(laden(), LacedHoles::blind), LacedHoles::blind, "0");
        answers(23, BLIND, "its HOLES are free", with(pictured("", 4, 5), LacedHoles::blind), see(5, 4), "1");
        answers(23, BLIND, "after six there is room for six", with(pictured("", 0, 6, 1, 7, 2, 8, 3, 9, 4, 10, 5, 11), LacedHoles::blind),
            see(0, 1, 2, 3, 4, 5, 6, 7, 8, 9, 10, 11), "6");
        answers(23, BLIND, "the WAY, KEPT ones, IMAGES, the TAPE stay", with(laden(), LacedHoles::blind),
            x -> x.told(7) * 10000 + x.sums(0) * 1000 + x.sums(2) * 100 + x.sums(3), "33220");
        answers(23, BLIND, "IMAGES of it stay", with(with(laden(), LacedHoles::blind), LacedHoles::restore), x -> x.sums(1), "3");
    }

    // ---- promises 24 and 25

    private static void within() {
        answers(24, AT_LEAST, "no PICTURE", fresh(), LacedHoles::within, "0");
        answers(24, AT_LEAST, "one SPAN, of two HOLES", pictured("", 0, 6), LacedHoles::within, "0");
        answers(24, WITHIN, "two SPANS", pictured("", 0, 6, 1, 7), LacedHoles::within, "2");
        answers(24, WITHIN, "three SPANS", pictured("", 0, 6, 1, 7, 2, 8), LacedHoles::within, "8");
        answers(24, WITHIN, "four SPANS", pictured("", 0, 6, 1, 7, 2, 8, 3, 9), LacedHoles::within, "48");
        answers(24, WITHIN, "six SPANS", pictured("", 0, 6, 1, 7, 2, 8, 3, 9, 4, 10, 5, 11), LacedHoles::within, "3840");
        answers(24, WITHIN, "six SPANS along, law 2", pictured("law 2;", 0, 1, 2, 3, 4, 5, 6, 7, 8, 9, 10, 11), LacedHoles::within, "384");
        answers(24, WITHIN, "six SPANS across, law 1", pictured("law 1;", 0, 6, 1, 7, 2, 8, 3, 9, 4, 10, 5, 11), LacedHoles::within, "3840");
        answers(24, WITHIN, "two SPANS across, law 2", pictured("law 2;", 0, 6, 1, 7), LacedHoles::within, "1");
        answers(24, WITHIN, "three SPANS across, law 2: none", pictured("law 2;", 0, 6, 1, 7, 2, 8), LacedHoles::within, "0");
        answers(24, WITHIN, "two SPANS of one row, law 1: none", pictured("law 1;", 0, 1, 2, 3), LacedHoles::within, "0");
        answers(24, WITHIN, "the first HOLE, by its SPAN home, law 1: none", pictured("law 1;", 0, 1, 2, 6), LacedHoles::within, "0");
        answers(24, WITHIN, "the last HOLE, by its SPAN home, law 1: none", pictured("law 1;", 0, 6, 1, 2), LacedHoles::within, "0");
        answers(24, WITHIN, "asked again", with(pictured("", 0, 6, 1, 7, 2, 8), LacedHoles::within), LacedHoles::within, "8");
        answers(24, WITHIN, "behind the first of them", with(pictured("", 0, 6, 1, 7, 2, 8), LacedHoles::guess), LacedHoles::within, "8");
        answers(24, WITHIN, "behind a SPAN more", with(with(pictured("", 0, 6, 1, 7), LacedHoles::within), see(2, 8)), LacedHoles::within, "8");
        answers(24, WITHIN, "behind a PICTURE that is gone", with(with(pictured("", 0, 6, 1, 7), LacedHoles::within), LacedHoles::blind),
            LacedHoles::within, "0");
        answers(24, WITHIN, "the HOLES of the WAY do not count", with(on("", "0 1 2"), see(3, 4, 5, 6)), LacedHoles::within, "2");
        refused(24, WITHIN, "nothing becomes the WAY", laden(), LacedHoles::within, "2");
    }

    private static void guessIs(String edge, String boot, int[] ends, int... due) {
        edge(25, GUESS, edge, () -> {
            LacedHoles x = pictured(boot, ends).get();
            is("guess", x.guess(), due.length);
            holesAre(x, due);
            is("is seen", x.seen() > 0 ? 1 : 0, 1);
        });
    }

    private static void guesses() {
        refused(25, NO_GUESS, "no PICTURE, no WAY", fresh(), LacedHoles::guess, NONE);
        refused(25, NO_GUESS, "no PICTURE, a WAY", on("", "3 1 2"), LacedHoles::guess, NONE);
        refused(25, NO_GUESS, "one SPAN", with(on("", "3 1 2"), see(3, 1)), LacedHoles::guess, NONE);
        refused(25, NO_GUESS, "three SPANS across, law 2", with(on("law 2;", "3 1 2"), see(0, 6, 1, 7, 2, 8)), LacedHoles::guess, NONE);
        refused(25, NO_GUESS, "two SPANS of one row, law 1", with(on("law 1;", "3 1 2"), see(0, 1, 2, 3)), LacedHoles::guess, NONE);
        guessIs("two SPANS: the one home is of them", "", new int[] {0, 6, 1, 7}, 0, 1, 7, 6);
        guessIs("two SPANS: the first one is of them", "", new int[] {4, 7, 1, 2}, 1, 2, 4, 7);
        guessIs("two SPANS, law 2: the only one", "law 2;", new int[] {0, 1, 6, 7}, 0, 1, 6, 7);
        guessIs("two SPANS across, law 2", "law 2;", new int[] {0, 7, 6, 1}, 0, 1, 6, 7);
        guessIs("six SPANS", "", new int[] {11, 5, 4, 10, 3, 9, 2, 8, 1, 7, 0, 6}, 0, 1, 7, 2, 8, 3, 9, 4, 10, 5, 11, 6);
        answers(25, GUESS, "the PICTURE stays", with(pictured("", 0, 6, 1, 7), LacedHoles::guess), x -> x.sums(1), "2");
    }

    // ---- promises 29 and 30

    private static void keeping() {
        refused(29, NO_WAY, "nothing told yet", fresh(), LacedHoles::keep, NO_SUCH);
        refused(29, NO_WAY, "none behind a BOOT", with(laden(), x -> x.boot(0)), LacedHoles::keep, NO_SUCH);
        answers(29, KEEP, "the first", on("", "0 1 2"), LacedHoles::keep, "1");
        answers(29, KEEP, "the last, the 4th", kept("0 1 2", "1 2 3", "2 3 4"), LacedHoles::keep, "4");
        refused(29, KEEP, "a 5th", kept("0 1 2", "1 2 3", "2 3 4", "3 4 5"), LacedHoles::keep, NONE);
        refused(29, KEEP, "a 5th among others", with(laden(), LacedHoles::keep), LacedHoles::keep, NONE);
        answers(29, KEEP, "one that is KEPT, again", kept("0 1 2", "0 1 2"), LacedHoles::keep, "3");
        answers(29, KEEP, "the WAY stays", kept("0 1 2"), x -> x.told(7), "3");
        answers(29, KEEP, "it is the WAY as it was then", with(kept("0 1 2"), x -> Texts.way(x, "0 6 1 7")), x -> x.weeks(1, 0), "3");
    }

    private static void dropping() {
        answers(30, DROP, "none", fresh(), LacedHoles::drop, "0");
        answers(30, DROP, "one", kept("0 1 2"), LacedHoles::drop, "1");
        answers(30, DROP, "four", kept("0 1 2", "1 2 3", "2 3 4", "3 4 5"), LacedHoles::drop, "4");
        answers(30, DROP, "they are gone", with(laden(), LacedHoles::drop), LacedHoles::drop, "0");
        answers(30, DROP, "none is KEPT", with(laden(), LacedHoles::drop), x -> x.weeks(1, 0), NONE);
        answers(30, DROP, "behind four there is room", with(kept("0 1 2", "1 2 3", "2 3 4", "3 4 5"), LacedHoles::drop), LacedHoles::keep, "1");
        answers(30, DROP, "the WAY, the PICTURE, IMAGES, the TAPE stay", with(laden(), LacedHoles::drop),
            x -> x.told(7) * 10000 + x.sums(1) * 1000 + x.sums(2) * 100 + x.sums(3), "32220");
        answers(30, DROP, "IMAGES of them stay", with(with(laden(), LacedHoles::drop), LacedHoles::restore), x -> x.sums(0), "2");
    }

    // ---- promise 31

    private static void wrongWeeks() {
        int[][] wrong = {{0, 0}, {0, 1}, {13, 0}, {13, 1}, {-1, 0}, {Integer.MIN_VALUE, 0}, {Integer.MAX_VALUE, 1}};
        for (int[] row : wrong) {
            refused(31, SO_MANY, "weeks(" + row[0] + ", " + row[1] + ")", laden(), x -> x.weeks(row[0], row[1]), ARGUMENT);
            refused(31, SO_MANY, "weeks(" + row[0] + ", " + row[1] + "), none is KEPT", fresh(), x -> x.weeks(row[0], row[1]), ARGUMENT);
        }
        for (int what : new int[] {-1, 2, Integer.MIN_VALUE, Integer.MAX_VALUE}) {
            refused(31, ANOTHER, "weeks(1, " + what + ")", laden(), x -> x.weeks(1, what), ARGUMENT);
            refused(31, ANOTHER, "weeks(1, " + what + "), none is KEPT", on("", "0 1 2"), x -> x.weeks(1, what), ARGUMENT);
        }
        for (int what = 0; what <= 1; what++) {
            int asked = what;
            refused(31, NONE_KEPT, "weeks(1, " + what + ")", fresh(), x -> x.weeks(1, asked), NONE);
            refused(31, NONE_KEPT, "weeks(12, " + what + "), a WAY", on("", "0 1 2"), x -> x.weeks(12, asked), NONE);
            refused(31, NONE_KEPT, "weeks(6, " + what + "), IMAGES of some", with(laden(), LacedHoles::drop), x -> x.weeks(6, asked), NONE);
        }
    }

    private static void weeksAre(String sentence, String edge, Supplier<LacedHoles> object, int weeks, int most, int row) {
        answers(31, sentence, edge + ", the most WEAR", object, x -> x.weeks(weeks, 0), "" + most);
        answers(31, sentence, edge + ", the row", object, x -> x.weeks(weeks, 1), "" + row);
    }

    private static void weeks() {
        weeksAre(SO_MANY, "one ROUND, 1 week", kept("0 1 2"), 1, 3, 1);
        weeksAre(SO_MANY, "one ROUND, 12 weeks", kept("0 1 2"), 12, 36, 12);
        weeksAre(SO_MANY, "one ROUND of the least WEAR, 12 weeks", kept("0 6 1 7"), 12, 12, 12);
        weeksAre(SO_MANY, "four ROUNDS, 12 weeks", kept("0 1 2", "3 4 5", "6 7 8", "9 10 11"), 12, 9, 3030303);
        weeksAre(SO_MANY, "four ROUNDS, 1 week", kept("0 1 2", "3 4 5", "6 7 8", "9 10 11"), 1, 3, 1);
        weeksAre(FIRST_ROW, "four ROUNDS, 2 weeks", kept("0 1 2", "3 4 5", "6 7 8", "9 10 11"), 2, 3, 101);
        weeksAre(FIRST_ROW, "four ROUNDS, 3 weeks", kept("0 1 2", "3 4 5", "6 7 8", "9 10 11"), 3, 3, 10101);
        weeksAre(FIRST_ROW, "four ROUNDS, 11 weeks", kept("0 1 2", "3 4 5", "6 7 8", "9 10 11"), 11, 9, 2030303);
        weeksAre(FIRST_ROW, "four times the same", kept("0 1 2", "0 1 2", "0 1 2", "0 1 2"), 12, 36, 12);
        weeksAre(FIRST_ROW, "two times the same", kept("0 1 2", "0 1 2"), 5, 15, 5);
        weeksAre(FIRST_ROW, "two ROUNDS, an odd number", kept("0 1 2", "3 4 5"), 3, 6, 102);
        weeksAre(MOST, "all for the first", kept("0 6 1 7", "0 1 7 6"), 12, 12, 1200);
        weeksAre(MOST, "all for the last", kept("0 1 7 6", "0 6 1 7"), 12, 12, 12);
        weeksAre(MOST, "all for the second of three", kept("0 1 7 6", "0 6 1 7", "0 1 7 6"), 12, 12, 1200);
        weeksAre(MOST, "all for the third of four", kept("0 1 7 6", "0 1 6 7", "0 6 1 7", "1 0 7 6"), 12, 12, 1200);
        weeksAre(MOST, "all for the first of four", kept("0 6 1 7", "0 1 7 6", "0 1 6 7", "1 0 7 6"), 12, 12, 12000000);
        weeksAre(ROW, "three ROUNDS", kept("0 1 2", "3 4 5", "6 7 8"), 12, 12, 40404);
        weeksAre(MOST, "the first HOLE's WEAR", kept("1 0 2 6"), 12, 36, 12);
        weeksAre(MOST, "the last HOLE's WEAR", kept("10 11 9 0"), 12, 36, 12);
        weeksAre(MOST, "the first HOLE's WEAR in both", kept("1 0 2 6", "3 0 4 7"), 12, 36, 12);
        weeksAre(MOST, "three of one to nine of the other", kept("9 10 11", "0 6 1 7"), 12, 9, 309);
        answers(31, ROW, "the WAY does not count", with(kept("0 1 2"), x -> Texts.way(x, "6 7 8")), x -> x.weeks(2, 0), "6");
        refused(31, ROW, "nothing changes", laden(), x -> x.weeks(12, 1), "50007");
    }

    // ---- promises 33 and 34

    private static void images() {
        answers(33, IMAGE, "the first, of nothing", fresh(), LacedHoles::image, "1");
        answers(33, IMAGE, "the last, the 3rd", laden(), LacedHoles::image, "3");
        refused(33, IMAGE, "a 4th", with(laden(), LacedHoles::image), LacedHoles::image, NONE);
        refused(33, IMAGE, "a 4th of nothing", with(with(with(fresh(), LacedHoles::image), LacedHoles::image), LacedHoles::image),
            LacedHoles::image, NONE);
        answers(33, IMAGE, "behind a restored one there is room", with(with(laden(), LacedHoles::image), LacedHoles::restore),
            LacedHoles::image, "3");
        edge(33, IMAGE, "a 4th leaves the latest as it was", () -> {
            LacedHoles x = with(laden(), LacedHoles::image).get();
            Texts.way(x, "5 1 6 0 4");
            x.drop();
            is("image", x.image(), -1);
            is("restore", x.restore(), 2);
            holesAre(x, 7, 2, 5);
            is("kept", x.sums(0), 3);
        });
        edge(33, IMAGE, "what is held then goes on as it was", () -> {
            LacedHoles x = laden().get();
            x.image();
            holesAre(x, 7, 2, 5);
            is("kept", x.sums(0), 3);
            is("picture", x.sums(1), 2);
            is("keep", x.keep(), 4);
        });
        edge(33, IMAGE, "what changes then changes no IMAGE", () -> {
            LacedHoles x = on("", "0 1 2").get();
            x.see(3, 4);
            x.keep();
            x.image();
            Texts.way(x, "9 8 7 6");
            x.see(5, 6);
            x.keep();
            x.restore();
            holesAre(x, 0, 1, 2);
            is("picture", x.sums(1), 1);
            is("a HOLE that is free again", x.see(6, 5), 2);
            is("a HOLE that is not", x.see(3, 7), -1);
            is("kept", x.sums(0), 1);
            is("its wear", x.weeks(1, 0), 3);
        });
    }

    private static void imagesOfKept() {
        edge(34, RESTORE, "KEPT ones are those of then, not of now", () -> {
            LacedHoles x = kept("0 1 2", "3 9 4 10").get();
            x.image();
            x.drop();
            Texts.way(x, "6 0 7 1");
            x.keep();
            Texts.way(x, "8 7 6");
            x.keep();
            is("the row now", x.weeks(1, 1), 100);
            x.restore();
            is("the row then", x.weeks(1, 1), 1);
            is("the most wear then", x.weeks(4, 0), 3);
            is("kept", x.sums(0), 2);
        });
        edge(34, RESTORE, "KEPT ones of each IMAGE stay apart", () -> {
            LacedHoles x = kept("0 1 2").get();
            x.image();
            x.drop();
            Texts.way(x, "0 6 1 7");
            x.keep();
            x.image();
            x.drop();
            Texts.way(x, "0 6 1");
            x.keep();
            is("now", x.weeks(1, 0), 2);
            x.restore();
            is("the latest", x.weeks(1, 0), 1);
            x.restore();
            is("the first", x.weeks(1, 0), 3);
        });
        edge(34, RESTORE, "four KEPT: the last one, too", () -> {
            LacedHoles x = kept("0 1 2", "3 4 5", "6 7 8", "11 3 10 2").get();
            x.image();
            x.drop();
            Texts.way(x, "9 10 11");
            for (int i = 0; i < 4; i++) {
                x.keep();
            }
            x.restore();
            is("kept", x.sums(0), 4);
            is("most wear of 6 weeks", x.weeks(6, 0), 5);
            is("their row", x.weeks(6, 1), 105);
            is("a 5th", x.keep(), -1);
        });
    }

    private static void restored() {
        refused(34, RESTORE, "none", fresh(), LacedHoles::restore, NONE);
        refused(34, RESTORE, "none any more", with(with(laden(), LacedHoles::restore), LacedHoles::restore), LacedHoles::restore, NONE);
        refused(34, RESTORE, "none behind a BOOT", with(laden(), x -> x.boot(0)), LacedHoles::restore, NONE);
        answers(34, RESTORE, "the 3rd of three", with(laden(), LacedHoles::image), LacedHoles::restore, "2");
        answers(34, RESTORE, "the 2nd of two", laden(), LacedHoles::restore, "1");
        answers(34, RESTORE, "the only one", with(laden(), LacedHoles::restore), LacedHoles::restore, "0");
        edge(34, RESTORE, "an IMAGE of nothing: no WAY, no PICTURE, none KEPT", () -> {
            LacedHoles x = new LacedHoles();
            x.image();
            Texts.way(x, "0 1 2");
            x.see(0, 1);
            x.keep();
            is("restore", x.restore(), 0);
            is("judge", outcome(x, LacedHoles::judge), NO_SUCH);
            is("at(0)", x.at(0), -1);
            is("picture", x.sums(1), 0);
            is("a HOLE of it is free", x.see(1, 0), 1);
            is("kept", x.sums(0), 0);
            is("weeks", x.weeks(1, 0), -1);
        });
        edge(34, RESTORE, "the latest first, then the ones before it", () -> {
            LacedHoles x = new LacedHoles();
            String[] ways = {"0 1 2", "3 4 5 6", "7 8 9 10 11"};
            for (String way : ways) {
                Texts.way(x, way);
                x.image();
            }
            Texts.way(x, "2 1 0");
            is("restore", x.restore(), 2);
            holesAre(x, 7, 8, 9, 10, 11);
            is("restore", x.restore(), 1);
            holesAre(x, 3, 4, 5, 6);
            is("restore", x.restore(), 0);
            holesAre(x, 0, 1, 2);
            is("restore", x.restore(), -1);
            holesAre(x, 0, 1, 2);
        });
        edge(34, RESTORE, "which is gone: the same is not restored again", () -> {
            LacedHoles x = on("", "0 1 2").get();
            x.image();
            Texts.way(x, "3 4 5");
            x.restore();
            Texts.way(x, "6 7 8");
            is("restore", x.restore(), -1);
            holesAre(x, 6, 7, 8);
        });
        edge(34, RESTORE, "the TAPE and the FAULT are in no IMAGE", () -> {
            LacedHoles x = new LacedHoles();
            x.image();
            Texts.way(x, "0 0");
            Texts.feed(x, "0 1 2");
            is("restore", x.restore(), 0);
            is("fault", x.fault(), 2);
            is("bytes", x.sums(3), 20);
            is("way", x.way(5), 3);
        });
    }

    // ---- promise 35

    private static void sums() {
        for (int what : new int[] {-1, 4, Integer.MIN_VALUE, Integer.MAX_VALUE}) {
            refused(35, SUMS, "sums(" + what + ")", laden(), x -> x.sums(what), NONE);
        }
        int[] due = {3, 2, 2, 20};
        for (int what = 0; what < due.length; what++) {
            int asked = what;
            answers(35, SUMS, "sums(" + what + ") of a new object", fresh(), x -> x.sums(asked), "0");
            answers(35, SUMS, "sums(" + what + ") of one that holds some of all", laden(), x -> x.sums(asked), "" + due[what]);
        }
        answers(35, SUMS, "the most KEPT", with(laden(), LacedHoles::keep), x -> x.sums(0), "4");
        answers(35, SUMS, "the most SPANS", pictured("", 0, 6, 1, 7, 2, 8, 3, 9, 4, 10, 5, 11), x -> x.sums(1), "6");
        answers(35, SUMS, "the most IMAGES", with(laden(), LacedHoles::image), x -> x.sums(2), "3");
        answers(35, SUMS, "the most bytes", with(fresh(), x -> {
            Texts.feed(x, "x".repeat(400));
            return 0;
        }), x -> x.sums(3), "400");
    }

    // ---- what stays, whatever the promise

    private static void questions() {
        asks(5, "The place of the FAULT of the latest text", LacedHoles::fault);
        asks(6, "7 HOLES of the WAY", x -> x.told(7));
        asks(7, "MEASURE of a SPAN", x -> x.span(0, 8));
        asks(8, "The i-th HOLE of the WAY", x -> x.at(0));
        asks(9, "The first HOLE of the WAY (as told) that is against the LAW", LacedHoles::judge);
        for (int what = 0; what <= 4; what++) {
            int asked = what;
            asks(10, "Of the WAY: 0 MEASURE, 1 PULL", x -> x.measure(asked));
        }
        asks(11, "The number (from 0 on) of the WAY's ROUND", LacedHoles::number);
        asks(12, "How many lawful ROUNDS of some HOLES (bits) there are", x -> x.count(255));
        asks(15, "How the WAY's LENGTH is to that of the SHORTEST of its HOLES", LacedHoles::against);
        asks(16, "LEAVING: the bits", LacedHoles::leave);
        asks(17, "SHORT; NONE: none is lawful", LacedHoles::tooShort);
        asks(18, "How many lawful ROUNDS of all HOLES there are", LacedHoles::alike);
        asks(19, "How many of the four ways to turn or mirror", LacedHoles::itself);
        asks(20, "TWO LACES: MEASURE of both", x -> x.two(7));
        asks(21, "The colour of the least LENGTH", LacedHoles::colours);
        asks(24, "WITHIN: how many", LacedHoles::within);
        asks(26, "Whether the PICTURE is what is SEEN of the WAY", LacedHoles::seen);
        asks(27, "KNOT: the first SPAN (what 0), the last one (1)", x -> x.knot(5, 1));
        asks(28, "WEAR of a HOLE in the WAY", x -> x.wear(7));
        asks(31, "WEEKS: 0 the most WEAR", x -> x.weeks(12, 0));
        asks(35, "0 KEPT, 1 SPANS of the PICTURE", x -> x.sums(0));
    }

    private static void changesOfTheWay() {
        changesWay(13, "That of a number becomes the WAY: how many HOLES", x -> x.take(255, 2519));
        for (int what = 0; what <= 2; what++) {
            int asked = what;
            changesWay(14, "SHORTEST (what 0), LONGEST (1), STRONGEST (2) becomes the WAY", x -> {
                x.best(119, asked);
                return x.told(7);
            });
        }
        changesWay(25, "The first of these becomes the WAY: how many HOLES", LacedHoles::guess);
        changesWay(32, "DRAWN becomes the WAY: how many HOLES", x -> x.draw(4711));
    }

    private static void calls() {
        edge(1, "An object is used for at most 512 calls after it has been made", "the 512th", () -> {
            LacedHoles x = new LacedHoles();
            is("feed", x.feed(0x30203120, 0x32000000, 0, 0, 0), 20);
            is("way", x.way(5), 3);
            for (int i = 0; i < 102; i++) {
                is("keep", x.keep(), 1);
                is("image", x.image(), 1);
                is("drop", x.drop(), 1);
                is("restore", x.restore(), 0);
                is("drop", x.drop(), 1);
            }
        });
    }
}
