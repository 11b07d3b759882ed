import java.util.function.Supplier;

/** The boundaries of texts: promises 1 to 6, and what Terms say of a BOOT and of a WAY's text. */
public final class TextEdgesTest extends Edges {
    private static final String A_TEXT = "A BOOT is a text of up to 400 bytes";
    private static final String AT_MOST = "{ CLAUSE \";\" }, at most 40";
    private static final String LEFT = "HOLES in the left row, 1 to 6";
    private static final String RIGHT = "in the right one, 1 to 6";
    private static final String ROWS_FIRST = "ahead of all others, once";
    private static final String ACROSS = "A across, 1 to 99";
    private static final String ALONG = "B along, 1 to 99; 30 20 without; the last counts";
    private static final String TORN = "\"torn\" K (HOLE K is torn; twice as once)";
    private static final String LAW = "\"law\" L (0 to 2; 0 without; the last counts)";
    private static final String LACE = "its length, 1 to 9,999; 9,999 without; the last counts";
    private static final String NUMBERS = "Numbers: digits, as many as stand there";
    private static final String WORDS = "WORDS: small letters, as many as stand there";
    private static final String BLANKS = "blanks (32) may stand ahead of all these, and at the end";
    private static final String FIRST = "the first from the left, at its first byte";
    private static final String CANNOT = "1 what can't stand there";
    private static final String EARLY = "at the length, if the text ends too early";
    private static final String NONE_SUCH = "2 a number that is none such";
    private static final String TOO_MANY = "3 a 41st CLAUSE (at its word)";
    private static final String ROWS_LATE = "4 rows too late, or again (at the word)";
    private static final String LEAST = "of one the least";
    private static final String WAY_TEXT = "A WAY is a text of up to 100 bytes: K { K }";
    private static final String WAY_HOLES = "HOLES, 3 to 12, no torn one, none twice";
    private static final String WAY_FAULTS = "FAULTS 1, 2 as above (also of one that is torn, or twice)";
    private static final String THIRTEENTH = "3 a 13th (at it)";
    private static final String FEWER = "4 fewer than 3, or none (at the length; not 1)";
    private static final String N_OF_TAPE = "n is not 0 to the TAPE's bytes (it stays)";
    private static final String BECOMES = "The first n bytes of the TAPE (empty then) are the BOOT";
    private static final String GONE = "(no WAY, PICTURE, ROUNDS kept, IMAGES)";
    private static final String HOW_MANY = "how many HOLES are not torn";
    private static final String FAULT_STAYS = "or the FAULT less 10 (all but the TAPE stays)";
    private static final String LIKEWISE = "Likewise the WAY (n to 100): how many HOLES";
    private static final String NEW_BOOT = "A BOOT without CLAUSES; no WAY.";
    private static final String FED = "Twenty bytes come on the TAPE, of each number the highest first: how many there are";
    private static final String NOT_FED = "NONE, doing nothing, if there would be more than 400";
    private static final String PLACE = "The place of the FAULT of the latest text; NONE without.";

    private static final String FORTY = "lace 1;lace 2;lace 3;lace 4;".repeat(10);

    public static void main(String[] args) {
        newObjects();
        feeding();
        bootLengths();
        bootsTaken();
        clauses();
        rows();
        values();
        signs();
        ends();
        faultsOfOne();
        wayLengths();
        wayTexts();
        wayFaults();
        places();
        tellings();
        end(1, 2, 3, 4, 5, 6);
    }

    /** A BOOT's text that a new object takes, and what it tells then. */
    private static void takes(String sentence, String edge, String text, int what, int due) {
        edge(3, sentence, edge, () -> {
            LacedHoles x = new LacedHoles();
            is("is refused", Texts.boot(x, text) < 0 ? 1 : 0, 0);
            is("fault()", x.fault(), -1);
            is("told(" + what + ")", x.told(what), due);
        });
    }

    /** A BOOT's text with a FAULT: its answer and place; all but the TAPE stays. */
    private static void fails(String sentence, String edge, String text, int answer, int place) {
        edge(3, sentence, edge, () -> {
            LacedHoles x = laden().get();
            x.way(0);
            is("boot '" + text + "'", Texts.boot(x, text), answer);
            is("fault()", x.fault(), place);
            is("bytes of the tape", x.sums(3), 0);
            x.way(0);
            LacedHoles plain = laden().get();
            plain.way(0);
            is("the state behind it", story(x), story(plain));
        });
    }

    /** A WAY's text on a boot of twelve HOLES, of which the last is torn. */
    private static void wayTakes(String sentence, String edge, String text, int... holes) {
        edge(4, sentence, edge, () -> {
            LacedHoles x = on("torn 11;", "9 8 7").get();
            is("way '" + text + "'", Texts.way(x, text), holes.length);
            is("fault()", x.fault(), -1);
            holesAre(x, holes);
        });
    }

    private static void wayFails(String sentence, String edge, String text, int answer, int place) {
        edge(4, sentence, edge, () -> {
            LacedHoles x = on("torn 11;", "9 8 7 10").get();
            is("way '" + text + "'", Texts.way(x, text), answer);
            is("fault()", x.fault(), place);
            is("bytes of the tape", x.sums(3), 0);
            holesAre(x, 9, 8, 7, 10);
        });
    }

    private static Supplier<LacedHoles> taped(int feeds) {
        return with(fresh(), x -> {
            for (int i = 0; i < feeds; i++) {
                x.feed(0x20202020, 0x20202020, 0x20202020, 0x20202020, 0x20202020);
            }
            return 0;
        });
    }

    // ---- promises 1 and 2

    private static void newObjects() {
        int[] told = {6, 6, 30, 20, 0, 9999, 0};
        for (int what = 0; what < told.length; what++) {
            int asked = what;
            answers(1, NEW_BOOT, "told(" + what + ")", fresh(), x -> x.told(asked), "" + told[what]);
        }
        answers(1, NEW_BOOT, "no HOLES of a WAY", fresh(), x -> x.told(7), "0");
        answers(1, NEW_BOOT, "no first HOLE", fresh(), x -> x.at(0), NONE);
        answers(1, NEW_BOOT, "no WAY to judge", fresh(), LacedHoles::judge, NO_SUCH);
        for (int what = 0; what < 4; what++) {
            int asked = what;
            answers(1, NEW_BOOT, "sums(" + what + ")", fresh(), x -> x.sums(asked), "0");
        }
        answers(1, NEW_BOOT, "no text, no FAULT", fresh(), LacedHoles::fault, NONE);
        answers(1, NEW_BOOT, "all 12 HOLES are whole", fresh(), x -> x.count(4095), "19958400");
        answers(1, NEW_BOOT, "spans lie as 30 and 20 say", fresh(), x -> x.span(0, 7), "36055");
        answers(1, NEW_BOOT, "like a BOOT of 0 bytes", with(laden(), x -> x.boot(0)), x -> story(x).equals(story(new LacedHoles())) ? 1 : 0, "1");
        edge(1, NEW_BOOT, "what one object holds is not in the next", () -> {
            LacedHoles one = laden().get();
            LacedHoles other = new LacedHoles();
            is("bytes", other.sums(3), 0);
            is("kept", other.sums(0), 0);
            is("rows", other.told(0), 6);
            is("bytes of the first", one.sums(3), 20);
        });
    }

    private static void feeding() {
        answers(2, FED, "the first twenty", fresh(), x -> x.feed(0, 0, 0, 0, 0), "20");
        answers(2, FED, "the last that there may be, the twentieth", taped(19), x -> x.feed(0, 0, 0, 0, 0), "400");
        refused(2, NOT_FED, "a twenty-first", taped(20), x -> x.feed(-1, -1, -1, -1, -1), NONE);
        edge(2, NOT_FED, "a refused one leaves each byte of 400", () -> {
            LacedHoles x = new LacedHoles();
            String text = FORTY + " ".repeat(400 - FORTY.length() - 1) + "z";
            Texts.feed(x, text);
            is("feed", x.feed(0x3b3b3b3b, 0x3b3b3b3b, 0x3b3b3b3b, 0x3b3b3b3b, 0x3b3b3b3b), -1);
            is("boot", x.boot(400), -9);
            is("fault", x.fault(), 399);
        });
        edge(2, FED, "behind a text the TAPE begins anew", () -> {
            LacedHoles x = taped(20).get();
            is("boot", x.boot(400), 12);
            is("feed", x.feed(0x6c617720, 0x323b2020, 0, 0, 0), 20);
            is("boot", x.boot(6), 12);
            is("law", x.told(4), 2);
        });
        edge(2, FED, "each of the twenty has its place", () -> {
            LacedHoles x = new LacedHoles();
            is("feed", x.feed(0x726f7773, 0x2035343b, 0x3b3b3b3b, 0x3b3b3b3b, 0x3b3b3b3b), 20);
            is("boot", x.boot(8), -8);
            is("feed", x.feed(0x726f7773, 0x20352034, 0x3b617061, 0x72742036, 0x20373b20), 20);
            is("boot", x.boot(20), 9);
            is("left", x.told(0), 5);
            is("right", x.told(1), 4);
            is("A", x.told(2), 6);
            is("B", x.told(3), 7);
        });
        edge(2, FED, "bytes of the highest bit stay apart from those without", () -> {
            for (int place = 0; place < 4; place++) {
                LacedHoles x = new LacedHoles();
                x.feed(0x20202020 | 0x80 << 24 - 8 * place, 0x20202020, 0, 0, 0);
                is("boot", x.boot(8), -9);
                is("fault", x.fault(), place);
            }
        });
    }

    // ---- promise 3

    private static void bootLengths() {
        refused(3, N_OF_TAPE, "one less than 0", laden(), x -> x.boot(-1), ARGUMENT);
        refused(3, N_OF_TAPE, "the least number", laden(), x -> x.boot(Integer.MIN_VALUE), ARGUMENT);
        refused(3, N_OF_TAPE, "one more than the TAPE's 20", laden(), x -> x.boot(21), ARGUMENT);
        refused(3, N_OF_TAPE, "the greatest number", laden(), x -> x.boot(Integer.MAX_VALUE), ARGUMENT);
        refused(3, N_OF_TAPE, "1 of an empty TAPE", fresh(), x -> x.boot(1), ARGUMENT);
        refused(3, N_OF_TAPE, "401 of a full TAPE", taped(20), x -> x.boot(401), ARGUMENT);
        refused(3, N_OF_TAPE, "1 behind a text that took all", with(taped(1), x -> x.boot(3)), x -> x.boot(1), ARGUMENT);
        answers(3, N_OF_TAPE, "the first allowed, 0, of an empty TAPE", fresh(), x -> x.boot(0), "12");
        answers(3, N_OF_TAPE, "the first allowed, 0, of twenty", taped(1), x -> x.boot(0), "12");
        answers(3, N_OF_TAPE, "the last allowed, 20 of twenty", taped(1), x -> x.boot(20), "12");
        answers(3, A_TEXT, "400 of 400", taped(20), x -> x.boot(400), "12");
        edge(3, A_TEXT, "the 400th byte is read", () -> {
            LacedHoles x = new LacedHoles();
            is("with its end", Texts.boot(x, " ".repeat(394) + "law 2;"), 12);
            is("law", x.told(4), 2);
            is("without", Texts.boot(x, " ".repeat(395) + "law 2"), -9);
            is("fault", x.fault(), 400);
        });
        edge(3, BECOMES, "byte n is not read any more", () -> {
            LacedHoles x = new LacedHoles();
            Texts.feed(x, "law 1;law 2;!");
            is("boot", x.boot(6), 12);
            is("law", x.told(4), 1);
            Texts.feed(x, "lace 77;");
            is("boot", x.boot(7), -9);
            is("fault", x.fault(), 7);
        });
        answers(3, BECOMES, "what stands behind n is gone, too", with(taped(3), x -> x.boot(1)), x -> x.sums(3), "0");
        answers(3, BECOMES, "n is 0: the TAPE is empty, too", with(taped(3), x -> x.boot(0)), x -> x.sums(3), "0");
        answers(3, BECOMES, "a FAULT empties it, too", with(with(fresh(), x -> x.feed(0, 0, 0, 0, 0)), x -> x.boot(1)), x -> x.sums(3), "0");
    }

    private static void bootsTaken() {
        Supplier<LacedHoles> anew = with(laden(), x -> x.boot(0));
        answers(3, GONE, "the WAY", anew, x -> x.told(7), "0");
        answers(3, GONE, "the WAY's first HOLE", anew, x -> x.at(0), NONE);
        answers(3, GONE, "no WAY to keep", anew, LacedHoles::keep, NO_SUCH);
        answers(3, GONE, "the PICTURE", anew, x -> x.sums(1), "0");
        answers(3, GONE, "its HOLES are free", anew, x -> x.see(4, 3), "1");
        answers(3, GONE, "ROUNDS kept", anew, x -> x.sums(0), "0");
        answers(3, GONE, "no weeks for them", anew, x -> x.weeks(1, 0), NONE);
        answers(3, GONE, "IMAGES", anew, x -> x.sums(2), "0");
        answers(3, GONE, "nothing to restore", anew, LacedHoles::restore, NONE);
        answers(3, HOW_MANY, "none is torn", fresh(), x -> Texts.boot(x, "rows 6 6;"), "12");
        answers(3, HOW_MANY, "all are torn", fresh(), x -> Texts.boot(x, "rows 1 1;torn 0;torn 1;"), "0");
        answers(3, HOW_MANY, "the fewest HOLES", fresh(), x -> Texts.boot(x, "rows 1 1;"), "2");
        answers(3, HOW_MANY, "one of twelve is torn", fresh(), x -> Texts.boot(x, "torn 0;"), "11");
        answers(3, HOW_MANY, "one is torn twice", fresh(), x -> Texts.boot(x, "torn 5;torn 5;"), "11");
        edge(3, BECOMES, "nothing of the BOOT before it counts", () -> {
            LacedHoles x = laden().get();
            Texts.boot(x, "");
            toldAsNew(x);
        });
        edge(3, BECOMES, "nothing of the BOOT before that one counts, either", () -> {
            LacedHoles x = laden().get();
            Texts.boot(x, "law 0;");
            Texts.boot(x, "");
            toldAsNew(x);
        });
        edge(3, BECOMES, "nothing of a text with a FAULT counts in the next one", () -> {
            LacedHoles x = new LacedHoles();
            is("boot", Texts.boot(x, "rows 2 3;apart 5 6;torn 1;law 1;lace 9;!"), -9);
            is("boot", Texts.boot(x, ""), 12);
            toldAsNew(x);
        });
        edge(3, BECOMES, "what was asked of the BOOT before is asked anew: ROUNDS", () -> {
            LacedHoles x = on("rows 2 2;apart 3 4;").get();
            is("best", x.best(15, 2), 3200000);
            Texts.boot(x, "rows 2 2;apart 3 4;law 2;");
            is("best", x.best(15, 2), 2000000);
            is("count", x.count(15), 2);
        });
        edge(3, BECOMES, "what was asked of the BOOT before is asked anew: LENGTHS", () -> {
            LacedHoles x = on("rows 3 3;apart 30 40;lace 1;").get();
            is("two", x.two(7), 320000);
            Texts.boot(x, "rows 3 3;apart 99 1;lace 2;");
            is("two", x.two(7), 8000);
            is("too short", x.tooShort(), 200000);
            is("colours", x.colours(), 7);
            is("leave", x.leave(), -1);
        });
        fails(FAULT_STAYS, "1", "rows 2 2;apart 5 5;torn 1;law 1;lace 9;!", -9, 39);
        fails(FAULT_STAYS, "2", "rows 2 2;apart 5 5;torn 1;law 1;lace 0;", -8, 37);
        fails(FAULT_STAYS, "3", FORTY + "law 1;", -7, 280);
        fails(FAULT_STAYS, "4", "apart 5 5;torn 1;law 1;lace 9;rows 2 2;", -6, 30);
    }

    private static void toldAsNew(LacedHoles x) {
        int[] told = {6, 6, 30, 20, 0, 9999, 0, 0};
        for (int what = 0; what < told.length; what++) {
            is("told(" + what + ")", x.told(what), told[what]);
        }
    }

    // ---- the clauses

    private static void clauses() {
        takes(AT_MOST, "none", "", 0, 6);
        takes(AT_MOST, "one", "law 1;", 4, 1);
        takes(AT_MOST, "40", FORTY, 5, 4);
        takes(AT_MOST, "40, of which rows is one", "rows 5 6;" + FORTY.substring(7), 0, 5);
        takes(AT_MOST, "40, blanks behind", FORTY + "   ", 5, 4);
        fails(TOO_MANY, "a 41st", FORTY + "law 2;", -7, 280);
        fails(TOO_MANY, "a 41st, blanks ahead", FORTY + "  law 2;", -7, 282);
        fails(TOO_MANY, "a 41st behind rows", "rows 6 6;" + FORTY.substring(7) + "torn 0;", -7, 282);
        fails(TOO_MANY, "a 41st that goes wrong behind its word", FORTY + "lace x", -7, 280);
        fails(TOO_MANY, "a 41st of a word alone", FORTY + "apart", -7, 280);
        fails(TOO_MANY, "a 41st, a 42nd", FORTY + "torn 1;torn 2;", -7, 280);
        fails(AT_MOST, "an empty one is none", ";", -9, 0);
        fails(AT_MOST, "an empty one behind one", "law 1;;", -9, 6);
        fails(AT_MOST, "the last one's end is missing", "law 1", -9, 5);
        fails(AT_MOST, "an end is missing between two", "law 1 law 2;", -9, 6);
    }

    private static void rows() {
        takes(LEFT, "the fewest", "rows 1 6;", 0, 1);
        takes(LEFT, "the most", "rows 6 1;", 0, 6);
        fails(LEFT, "one less", "rows 0 6;", -8, 5);
        fails(LEFT, "one more", "rows 7 6;", -8, 5);
        takes(RIGHT, "the fewest", "rows 6 1;", 1, 1);
        takes(RIGHT, "the most", "rows 1 6;", 1, 6);
        fails(RIGHT, "one less", "rows 6 0;", -8, 7);
        fails(RIGHT, "one more", "rows 6 7;", -8, 7);
        takes("6 6 without", "left", "law 1;", 0, 6);
        takes("6 6 without", "right", "law 1;", 1, 6);
        takes(ROWS_FIRST, "first of all, blanks ahead", "   rows 3 4;law 1;", 1, 4);
        fails(ROWS_FIRST, "behind another", "law 1;rows 2 2;", -6, 6);
        fails(ROWS_FIRST, "twice", "rows 2 2;rows 2 2;", -6, 9);
        fails(ROWS_LATE, "blanks ahead of the word", "torn 0;  rows 2 2;", -6, 9);
        fails(ROWS_LATE, "ahead of what goes wrong behind its word", "lace 5;rows 9 x", -6, 7);
        fails(ROWS_LATE, "again, behind others", "rows 2 2;law 1;rows 2 2;", -6, 15);
        fails(ROWS_LATE, "the 40th", FORTY.substring(7) + "rows 2 2;", -6, 273);
    }

    private static void values() {
        takes(ACROSS, "the least", "apart 1 9;", 2, 1);
        takes(ACROSS, "the most", "apart 99 9;", 2, 99);
        fails(ACROSS, "one less", "apart 0 9;", -8, 6);
        fails(ACROSS, "one more", "apart 100 9;", -8, 6);
        takes(ALONG, "the least", "apart 9 1;", 3, 1);
        takes(ALONG, "the most", "apart 9 99;", 3, 99);
        fails(ALONG, "one less", "apart 9 0;", -8, 8);
        fails(ALONG, "one more", "apart 9 100;", -8, 8);
        takes(ALONG, "A without", "law 1;", 2, 30);
        takes(ALONG, "B without", "law 1;", 3, 20);
        takes(ALONG, "A of the last", "apart 9 8;apart 7 6;", 2, 7);
        takes(ALONG, "B of the last", "apart 9 8;apart 7 6;", 3, 6);
        takes(TORN, "the first HOLE", "torn 0;", 6, 1);
        takes(TORN, "the last HOLE", "torn 11;", 6, 2048);
        fails(TORN, "one more than the last HOLE", "torn 12;", -8, 5);
        takes(TORN, "the last HOLE of few", "rows 1 2;torn 2;", 6, 4);
        fails(TORN, "one more than the last HOLE of few", "rows 1 2;torn 3;", -8, 14);
        fails(TORN, "so many that bits come round", "torn 32;", -8, 5);
        takes(TORN, "twice", "torn 4;torn 4;", 6, 16);
        takes(TORN, "none", "law 0;", 6, 0);
        takes(TORN, "each", "rows 1 1;torn 1;torn 0;", 6, 3);
        takes(LAW, "the first", "law 2;law 0;", 4, 0);
        takes(LAW, "the last", "law 2;", 4, 2);
        fails(LAW, "one more", "law 3;", -8, 4);
        takes(LAW, "without", "lace 7;", 4, 0);
        takes(LAW, "the last counts", "law 2;law 1;", 4, 1);
        takes(LACE, "the least", "lace 1;", 5, 1);
        takes(LACE, "the most", "lace 5;lace 9999;", 5, 9999);
        fails(LACE, "one less", "lace 0;", -8, 5);
        fails(LACE, "one more", "lace 10000;", -8, 5);
        takes(LACE, "without", "law 2;", 5, 9999);
        takes(LACE, "the last counts", "lace 9998;lace 2;", 5, 2);
    }

    private static void signs() {
        takes(NUMBERS, "noughts ahead", "lace " + "0".repeat(50) + "12;", 5, 12);
        takes(NUMBERS, "noughts alone are 0", "law 000;", 4, 0);
        fails(NUMBERS, "digits that stand together are one number", "rows 66;", -8, 5);
        fails(NONE_SUCH, "round 2 to the power 32", "lace 4294967297;", -8, 5);
        fails(NONE_SUCH, "round 2 to the power 64", "lace 18446744073709551617;", -8, 5);
        fails(NONE_SUCH, "of very many digits", "torn " + "9".repeat(300) + ";", -8, 5);
        fails(NONE_SUCH, "at its first digit, a nought", "law 0003;", -8, 4);
        fails(CANNOT, "a sign ahead of a number", "law +1;", -9, 4);
        fails(CANNOT, "a sign ahead of a number", "law -1;", -9, 4);
        fails(CANNOT, "the sign below 0", "law /;", -9, 4);
        fails(CANNOT, "the sign above 9", "law :;", -9, 4);
        fails(CANNOT, "the sign above 9 behind a number", "law 1:;", -9, 5);
        fails(CANNOT, "the sign below 0 behind a number", "law 1/;", -9, 5);
        fails(CANNOT, "one number too many", "law 1 1;", -9, 6);
        fails(CANNOT, "a number too few", "apart 1;", -9, 7);
        fails(CANNOT, "no number", "torn;", -9, 4);
        fails(CANNOT, "a number for a word", "1;", -9, 0);
        takes(WORDS, "a digit ends it", "rows2 3;law1;lace5;", 5, 5);
        fails(WORDS, "a letter more", "laws 1;", -9, 0);
        fails(WORDS, "a letter less", "la 1;", -9, 0);
        fails(WORDS, "one that is none, at its first byte", "lace 4; lacy 5;", -9, 8);
        fails(WORDS, "two that stand together", "lawlaw 1;", -9, 0);
        fails(WORDS, "a great letter ahead", "Law 1;", -9, 0);
        fails(WORDS, "a great letter ends it", "laW 1;", -9, 0);
        fails(WORDS, "the sign below a", "`aw 1;", -9, 0);
        fails(WORDS, "the sign above z", "law{ 1;", -9, 3);
        fails(WORDS, "the sign below a behind a word", "law` 1;", -9, 3);
        fails(WORDS, "the first of all letters goes on with it", "lawa 1;", -9, 0);
        fails(WORDS, "the last of all letters goes on with it", "lawz 1;", -9, 0);
        for (String word : new String[] {"cows 2 2;", "spart 5 5;", "corn 1;", "saw 1;", "face 5;", "row 2 2;", "tore 1;", "lac 1;"}) {
            fails(WORDS, "another one: " + word, word, -9, 0);
        }
        takes(BLANKS, "ahead of each", "   rows   2   3   ;   torn   1   ;   ", 6, 2);
        takes(BLANKS, "alone", "    ", 5, 9999);
        fails(BLANKS, "not within a word", "la w 1;", -9, 0);
        fails(BLANKS, "not within a number", "lace 1 2;", -9, 7);
        for (char sign : new char[] {0, 9, 10, 13, 31, 33, 160, 255}) {
            fails(BLANKS, "sign " + (int) sign + " is none, ahead", sign + "law 1;", -9, 0);
            fails(BLANKS, "sign " + (int) sign + " is none, within", "law 1" + sign + ";", -9, 5);
            fails(BLANKS, "sign " + (int) sign + " is none, at the end", "law 1; " + sign, -9, 7);
        }
    }

    private static void ends() {
        String text = "rows 2 3;";
        for (int length : new int[] {4, 5, 6, 7, 8}) {
            fails(EARLY, "behind " + length + " bytes", text.substring(0, length), -9, length);
        }
        fails(EARLY, "behind a word", "lace", -9, 4);
        fails(EARLY, "behind blanks behind a word", "lace   ", -9, 7);
        fails(EARLY, "behind a number", "lace 44", -9, 7);
        fails(EARLY, "behind blanks behind a number", "lace 44  ", -9, 9);
        fails(EARLY, "behind the first of two numbers", "apart 44 ", -9, 9);
        edge(3, EARLY, "the length is n, not the TAPE's", () -> {
            LacedHoles x = new LacedHoles();
            Texts.feed(x, "law 1;law 2;law 1;");
            is("boot", x.boot(9), -9);
            is("fault", x.fault(), 9);
        });
    }

    private static void faultsOfOne() {
        fails(FIRST, "2 ahead of 1", "law 9!", -8, 4);
        fails(FIRST, "1 ahead of 2", "law !9;", -9, 4);
        fails(FIRST, "2 ahead of 4", "lace 0;rows 1 1;", -8, 5);
        fails(FIRST, "4 ahead of 1", "lace 1;rows", -6, 7);
        fails(FIRST, "2 ahead of the text's early end", "apart 100", -8, 6);
        fails(FIRST, "the first of two numbers", "apart 100 100;", -8, 6);
        fails(FIRST, "4 ahead of 3", "lace 1;rows 1 1;" + FORTY, -6, 7);
        fails(FIRST, "at 0", "!", -9, 0);
        fails(LEAST, "1 and 3: a 41st of a word that is none", FORTY + "lawn 1;", -9, 280);
        fails(LEAST, "1 and 3: a sign for a 41st", FORTY + ";", -9, 280);
        fails(LEAST, "3 and 4: a 41st is rows", FORTY + "rows 1 1;", -7, 280);
        fails(LEAST, "3 and 4: rows again, a 41st", "rows 6 6;" + FORTY.substring(7) + " rows 1 1;", -7, 283);
    }

    // ---- promise 4

    private static void wayLengths() {
        String lengths = "(n to 100)";
        refused(4, LIKEWISE, "one less than 0", laden(), x -> x.way(-1), ARGUMENT);
        refused(4, LIKEWISE, "the least number", laden(), x -> x.way(Integer.MIN_VALUE), ARGUMENT);
        refused(4, LIKEWISE, "one more than the TAPE's 20", laden(), x -> x.way(21), ARGUMENT);
        refused(4, LIKEWISE, "the greatest number", laden(), x -> x.way(Integer.MAX_VALUE), ARGUMENT);
        refused(4, LIKEWISE, "1 of an empty TAPE", on("", "3 2 1"), x -> x.way(1), ARGUMENT);
        refused(4, lengths, "101 of 120", taped(6), x -> x.way(101), ARGUMENT);
        refused(4, lengths, "101 of 400", taped(20), x -> x.way(101), ARGUMENT);
        refused(4, lengths, "81 of 80", taped(4), x -> x.way(81), ARGUMENT);
        answers(4, lengths, "100 of 100", taped(5), x -> x.way(100), "-6");
        answers(4, lengths, "100 of 400", taped(20), x -> x.way(100), "-6");
        answers(4, lengths, "0 of an empty TAPE", fresh(), x -> x.way(0), "-6");
        answers(4, lengths, "20 of 20", with(fresh(), x -> x.feed(0x30203120, 0x32203320, 0x34203520, 0x36203720, 0x38203920)),
            x -> x.way(20), "10");
        edge(4, WAY_TEXT, "the 100th byte is read", () -> {
            LacedHoles x = new LacedHoles();
            is("way", Texts.way(x, "1 2" + " ".repeat(95) + "11"), 3);
            holesAre(x, 1, 2, 11);
        });
        edge(4, LIKEWISE, "byte n is not read any more", () -> {
            LacedHoles x = new LacedHoles();
            Texts.feed(x, "1 2 11!");
            is("way", x.way(5), -8);
            Texts.feed(x, "4 2 11!");
            is("way", x.way(5), 3);
            holesAre(x, 4, 2, 1);
            is("bytes", x.sums(3), 0);
        });
    }


    private static void wayTexts() {
        wayTakes(WAY_HOLES, "the fewest, 3", "0 1 2", 0, 1, 2);
        wayTakes(WAY_HOLES, "the first HOLE and the last whole one", "10 0 5", 10, 0, 5);
        wayTakes(WAY_HOLES, "all whole ones", "0 1 2 3 4 5 6 7 8 9 10", 0, 1, 2, 3, 4, 5, 6, 7, 8, 9, 10);
        answers(4, WAY_HOLES, "the most, 12", fresh(), x -> Texts.way(x, "11 10 9 8 7 6 5 4 3 2 1 0"), "12");
        answers(4, WAY_HOLES, "the last HOLE of all", on("", "11 10 9"), x -> x.at(0), "11");
        wayTakes(BLANKS, "ahead, between, at the end", "  4   3 2   ", 4, 3, 2);
        wayTakes(NUMBERS, "noughts ahead", "0003 02 000", 3, 2, 0);
        answers(4, LIKEWISE, "the PICTURE, ROUNDS kept, IMAGES stay", with(laden(), x -> x.way(20)),
            x -> x.sums(0) * 100 + x.sums(1) * 10 + x.sums(2), "322");
        answers(4, LIKEWISE, "the BOOT stays", with(laden(), x -> x.way(20)), x -> x.told(5), "77");
        edge(4, "A WAY is a text", "a way of fewer HOLES leaves none of the one before", () -> {
            LacedHoles x = on("", "0 1 2 3 4 5 6 7 8 9 10 11").get();
            Texts.way(x, "5 6 7");
            holesAre(x, 5, 6, 7);
            is("wear of one that was in it", x.wear(0), 0);
        });
    }

    private static void wayFaults() {
        wayFails(WAY_FAULTS, "1: a sign", "0 1 2;", -9, 5);
        wayFails(WAY_FAULTS, "1: a sign ahead of all", "a 1 2", -9, 0);
        wayFails(WAY_FAULTS, "1: a sign between", "0,1 2", -9, 1);
        wayFails(WAY_FAULTS, "1: less than 0", "0 -1 2", -9, 2);
        wayFails(WAY_FAULTS, "1: a sign behind blanks at the end", "0 1 2  \u00ff", -9, 7);
        wayFails(WAY_FAULTS, "2: one more than the last HOLE", "0 1 12", -8, 4);
        wayFails(WAY_FAULTS, "2: round 2 to the power 32", "0 1 4294967298", -8, 4);
        wayFails(WAY_FAULTS, "2: a torn one", "0 1 11", -8, 4);
        wayFails(WAY_FAULTS, "2: the first one twice", "0 1 0", -8, 4);
        wayFails(WAY_FAULTS, "2: the last one twice, told otherwise", "0 1 2 002", -8, 6);
        wayFails(WAY_FAULTS, "2: digits that stand together", "012", -8, 0);
        wayFails(WAY_FAULTS, "2 ahead of 1", "0 0 !", -8, 2);
        wayFails(WAY_FAULTS, "1 ahead of 2", "! 0 0", -9, 0);
        answers(4, WAY_FAULTS, "2: one more than the last HOLE of few", on("rows 2 1;"), x -> Texts.way(x, "0 1 3"), "-8");
        answers(4, WAY_FAULTS, "the last HOLE of few", on("rows 2 1;"), x -> Texts.way(x, "0 1 2"), "3");
        wayFails(FEWER, "none: a text of 0 bytes", "", -6, 0);
        wayFails(FEWER, "none: blanks", "    ", -6, 4);
        wayFails(FEWER, "1", "7", -6, 1);
        wayFails(FEWER, "2", "7 10", -6, 4);
        wayFails(FEWER, "2, blanks behind", "7 10   ", -6, 7);
        wayFails(FEWER, "2, and another FAULT ahead of the length", "7 7", -8, 2);
        wayFails(FEWER, "2, and what can't stand there", "7 8 ;", -9, 4);
        edge(4, FEWER, "the length is n, not the TAPE's", () -> {
            LacedHoles x = new LacedHoles();
            Texts.feed(x, "1 2 3");
            is("way", x.way(3), -6);
            is("fault", x.fault(), 3);
        });
        edge(4, THIRTEENTH, "it is refused, at it; as it is twice, too, of one the least", () -> {
            LacedHoles x = on("", "3 2 1").get();
            is("way", Texts.way(x, "0 1 2 3 4 5 6 7 8 9 10 11  3 !"), -8);
            is("fault", x.fault(), 27);
            holesAre(x, 3, 2, 1);
        });
        edge(4, THIRTEENTH, "one that is none such, at it", () -> {
            LacedHoles x = on("", "3 2 1").get();
            is("way", Texts.way(x, "0 1 2 3 4 5 6 7 8 9 10 11 12"), -8);
            is("fault", x.fault(), 26);
            holesAre(x, 3, 2, 1);
        });
        edge(4, LIKEWISE, "a FAULT leaves all but the TAPE", () -> {
            LacedHoles x = laden().get();
            x.way(0);
            is("way", Texts.way(x, "0 1 2 3 3"), -8);
            x.way(0);
            LacedHoles plain = laden().get();
            plain.way(0);
            is("the state behind it", story(x), story(plain));
        });
    }

    // ---- promises 5 and 6

    private static void places() {
        answers(5, PLACE, "no text yet", fresh(), LacedHoles::fault, NONE);
        answers(5, PLACE, "a FAULT at the first byte", with(fresh(), x -> Texts.boot(x, ";")), LacedHoles::fault, "0");
        answers(5, PLACE, "a FAULT at the last byte of 400", with(fresh(), x -> Texts.boot(x, " ".repeat(399) + ";")), LacedHoles::fault, "399");
        answers(5, PLACE, "a FAULT at the length", with(fresh(), x -> Texts.boot(x, " ".repeat(395) + "law 1")), LacedHoles::fault, "400");
        answers(5, PLACE, "a FAULT of a WAY", with(fresh(), x -> Texts.way(x, "0 0 0")), LacedHoles::fault, "2");
        answers(5, PLACE, "a BOOT without behind one with", with(with(fresh(), x -> Texts.boot(x, ";")), x -> x.boot(0)), LacedHoles::fault, NONE);
        answers(5, PLACE, "a WAY without behind one with", with(with(fresh(), x -> Texts.way(x, "0")), x -> Texts.way(x, "0 1 2")), LacedHoles::fault, NONE);
        answers(5, PLACE, "a WAY with behind a BOOT without", with(on("law 1;"), x -> Texts.way(x, "0 1")), LacedHoles::fault, "3");
        answers(5, PLACE, "the later of two with", with(with(fresh(), x -> Texts.way(x, "0 0")), x -> Texts.boot(x, "law 4")), LacedHoles::fault, "4");
        answers(5, PLACE, "a refused n is no text", with(with(fresh(), x -> Texts.way(x, "0 0")), x -> outcome(x, y -> y.boot(9)).length()),
            LacedHoles::fault, "2");
        answers(5, PLACE, "asked again", with(with(fresh(), x -> Texts.way(x, "0 0")), LacedHoles::fault), LacedHoles::fault, "2");
    }

    private static void tellings() {
        String row = "0 HOLES on the left, 1 on the right, 2 A, 3 B, 4 the law, 5 the lace, 6 torn ones (bits), 7 HOLES of the WAY";
        Supplier<LacedHoles> boot = on("rows 5 4;apart 3 2;torn 8;torn 0;law 1;lace 77;", "1 2 3");
        int[] told = {5, 4, 3, 2, 1, 77, 257, 3};
        for (int what = 0; what < told.length; what++) {
            int asked = what;
            answers(6, row, "told(" + what + ")", boot, x -> x.told(asked), "" + told[what]);
        }
        answers(6, row, "7: no WAY", on("law 1;"), x -> x.told(7), "0");
        answers(6, row, "7: the longest WAY", on("", "0 1 2 3 4 5 6 7 8 9 10 11"), x -> x.told(7), "12");
        String another = "IllegalArgumentException: another what (so below)";
        refused(6, another, "one less than the first", laden(), x -> x.told(-1), ARGUMENT);
        refused(6, another, "one more than the last", laden(), x -> x.told(8), ARGUMENT);
        refused(6, another, "the least number", laden(), x -> x.told(Integer.MIN_VALUE), ARGUMENT);
        refused(6, another, "the greatest number", laden(), x -> x.told(Integer.MAX_VALUE), ARGUMENT);
    }
}
