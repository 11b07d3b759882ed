import java.util.NoSuchElementException;

/** The promises one by one: ordinary inputs, edges, wrong inputs. */
public final class PromisesTest {
    private interface Call {
        long answer();
    }

    private static final String RECTANGLE = "rows 2 2;apart 3 4;";
    private static int wrong = 0;
    private static int promise = 0;

    private static void is(String what, long got, long due) {
        if (got != due) {
            wrong++;
            System.out.println("promise " + promise + ": " + what + " answered " + got + ", due is " + due);
        }
    }

    private static void fails(String what, Class<? extends RuntimeException> due, Call call) {
        try {
            long got = call.answer();
            wrong++;
            System.out.println("promise " + promise + ": " + what + " answered " + got + ", due is " + due.getSimpleName());
        } catch (RuntimeException e) {
            if (e.getClass() != due) {
                wrong++;
                System.out.println("promise " + promise + ": " + what + " threw " + e + ", due is " + due.getSimpleName());
            }
        }
    }

    private static void noWay(String what, Call call) {
        fails(what, NoSuchElementException.class, call);
    }

    private static void badArgument(String what, Call call) {
        fails(what, IllegalArgumentException.class, call);
    }

    private static void noHole(String what, Call call) {
        fails(what, IndexOutOfBoundsException.class, call);
    }

    private static LacedHoles booted(String text) {
        LacedHoles x = new LacedHoles();
        is("boot " + text, Texts.boot(x, text) < 0 ? x.fault() : 1, 1);
        return x;
    }

    private static void holesAre(LacedHoles x, int... holes) {
        is("holes of the way", x.told(7), holes.length);
        for (int i = 0; i < holes.length; i++) {
            is("at(" + i + ")", x.at(i), holes[i]);
        }
    }

    private static void bootFault(String text, int answer, int place) {
        LacedHoles x = booted("rows 3 2;apart 5 6;law 1;lace 7;torn 4;");
        Texts.way(x, "0 1 2");
        x.see(0, 1);
        x.keep();
        x.image();
        is("boot '" + text + "'", Texts.boot(x, text), answer);
        is("place in '" + text + "'", x.fault(), place);
        int[] told = {3, 2, 5, 6, 1, 7, 16, 3};
        for (int what = 0; what < told.length && answer < 0; what++) {
            is("told(" + what + ") stays", x.told(what), told[what]);
        }
        is("the tape is empty", x.sums(3), 0);
        is("kept", x.sums(0), answer < 0 ? 1 : 0);
        is("picture", x.sums(1), answer < 0 ? 1 : 0);
        is("images", x.sums(2), answer < 0 ? 1 : 0);
        is("way", x.told(7), answer < 0 ? 3 : 0);
    }

    private static void wayFault(String text, int answer, int place) {
        LacedHoles x = booted("rows 6 6;torn 5;");
        Texts.way(x, "0 1 2 3");
        x.keep();
        is("way '" + text + "'", Texts.way(x, text), answer);
        is("place in '" + text + "'", x.fault(), place);
        is("holes of the way", x.told(7), answer < 0 ? 4 : answer);
        is("kept ones stay", x.sums(0), 1);
        is("the tape is empty", x.sums(3), 0);
    }

    public static void main(String[] args) {
        texts();
        faultsOfBoots();
        faultsOfWays();
        spansAndWays();
        measures();
        numbers();
        bests();
        laces();
        images();
        colours();
        pictures();
        knots();
        wears();
        drawn();
        exactness();
        System.out.println(wrong == 0 ? "all promises hold" : wrong + " answers are wrong");
        if (wrong != 0) {
            System.exit(1);
        }
    }

    private static void texts() {
        promise = 1;
        LacedHoles x = new LacedHoles();
        int[] told = {6, 6, 30, 20, 0, 9999, 0, 0};
        for (int what = 0; what < told.length; what++) {
            is("told(" + what + ")", x.told(what), told[what]);
        }
        for (int what = 0; what < 4; what++) {
            is("sums(" + what + ")", x.sums(what), 0);
        }
        is("NONE", LacedHoles.NONE, -1);
        is("fault", x.fault(), -1);
        is("count", x.count(63), 60);
        is("two", x.two(63), 400000);
        is("leave", x.leave(), 0);
        is("too short", x.tooShort(), 0);
        promise = 2;
        for (int i = 1; i <= 20; i++) {
            is("feed", x.feed(0x6c617720, 0x313b2020, 0x20202020, 0x20202020, 0x20202020), 20 * i);
        }
        is("feed over 400", x.feed(0, 0, 0, 0, 0), -1);
        is("bytes", x.sums(3), 400);
        is("boot of 400 bytes", x.boot(400), 12);
        is("law", x.told(4), 1);
        is("feed anew", x.feed(-1, -1, -1, -1, -1), 20);
        is("boot of 255s", x.boot(1), -9);
        promise = 3;
        x.feed(0, 0, 0, 0, 0);
        badArgument("boot(-1)", () -> x.boot(-1));
        badArgument("boot(21)", () -> x.boot(21));
        is("the tape stays", x.sums(3), 20);
        is("fault stays", x.fault(), 0);
        is("boot(0)", x.boot(0), 12);
        is("all of the tape is gone", x.sums(3), 0);
        is("law is 0 again", x.told(4), 0);
        promise = 4;
        for (int i = 0; i < 6; i++) {
            x.feed(0x20202020, 0x20202020, 0x20202020, 0x20202020, 0x20202020);
        }
        badArgument("way(101)", () -> x.way(101));
        badArgument("way(-1)", () -> x.way(-1));
        is("the tape stays", x.sums(3), 120);
        is("way of blanks", x.way(100), -6);
        promise = 5;
        is("fault", x.fault(), 100);
        badArgument("way(1)", () -> x.way(1));
        is("fault stays", x.fault(), 100);
        is("way", Texts.way(x, " 3 02\u0020 001 "), 3);
        is("fault is gone", x.fault(), -1);
        holesAre(x, 3, 2, 1);
        promise = 6;
        badArgument("told(8)", () -> x.told(8));
        badArgument("told(-1)", () -> x.told(-1));
        Texts.boot(x, "rows 4 3;torn 6;apart 1 2;torn 0;apart 99 98;law 2;law 1;lace 5;lace 9998;torn 6;");
        int[] last = {4, 3, 99, 98, 1, 9998, 65, 0};
        for (int what = 0; what < last.length; what++) {
            is("told(" + what + ")", x.told(what), last[what]);
        }
    }

    private static void faultsOfBoots() {
        promise = 3;
        String forty = "law 1;law 1;law 1;law 1;law 1;law 1;law 1;law 1;";
        forty = forty + forty + forty + forty + forty;
        bootFault("", 12, -1);
        bootFault("   ", 12, -1);
        bootFault("rows1 06;apart099 1;", 7, -1);
        bootFault(" torn 0 ; torn 11;law  2 ;lace 0009999;  ", 10, -1);
        bootFault(forty + " ", 12, -1);
        bootFault(forty + " law 1;", -7, 241);
        bootFault(forty + "rows 1 1;", -7, 240);
        bootFault(forty + "rose 1 1;", -9, 240);
        bootFault(forty + ";", -9, 240);
        bootFault("law 1;;", -9, 6);
        bootFault(";", -9, 0);
        bootFault("5", -9, 0);
        bootFault("Law 1;", -9, 0);
        bootFault(" laws 1;", -9, 1);
        bootFault("la 1;", -9, 0);
        bootFault("lawz 1;", -9, 0);
        bootFault("alaw 1;", -9, 0);
        bootFault("mace 1;", -9, 0);
        bootFault("law", -9, 3);
        bootFault("law  ", -9, 5);
        bootFault("law 1", -9, 5);
        bootFault("law 1  ", -9, 7);
        bootFault("law 1 2;", -9, 6);
        bootFault("law x;", -9, 4);
        bootFault("law -1;", -9, 4);
        bootFault("law;", -9, 3);
        bootFault("law 1,", -9, 5);
        bootFault("law\t1;", -9, 3);
        bootFault("rows 66;", -8, 5);
        bootFault("rows 6;", -9, 6);
        bootFault("rows 6 0;", -8, 7);
        bootFault("rows 7 9;", -8, 5);
        bootFault("apart 0 1;", -8, 6);
        bootFault("apart 100 1;", -8, 6);
        bootFault("apart 1 100;", -8, 8);
        bootFault("apart 99 99;", 12, -1);
        bootFault("torn 12;", -8, 5);
        bootFault("rows 2 1;torn 3;", -8, 14);
        bootFault("rows 2 1;torn 2;", 2, -1);
        bootFault("law 3;", -8, 4);
        bootFault("lace 0;", -8, 5);
        bootFault("lace 10000;", -8, 5);
        bootFault("lace 99999999999999999999;", -8, 5);
        bootFault("lace 4294967297;", -8, 5);
        bootFault("rows 1 1;rows 1 1;", -6, 9);
        bootFault("law 0;  rows 0 0;", -6, 8);
        bootFault("\u00e9", -9, 0);
        bootFault("lace 3\u00e9", -9, 6);
    }

    private static void faultsOfWays() {
        promise = 4;
        wayFault("0 1 2", 3, -1);
        wayFault("  11 10 9 8 7 6 4 3 2 1 0  ", 11, -1);
        wayFault("", -6, 0);
        wayFault("1 2", -6, 3);
        wayFault("1 2  ", -6, 5);
        wayFault("1 2 x", -9, 4);
        wayFault("1,2,3", -9, 1);
        wayFault("1 2 3;", -9, 5);
        wayFault("1 2 12", -8, 4);
        wayFault("1 2 5", -8, 4);
        wayFault("1 2 02 x", -8, 4);
        wayFault("012", -8, 0);
        wayFault("0 1 99999999999", -8, 4);
        LacedHoles x = new LacedHoles();
        is("all holes", Texts.way(x, "0 1 2 3 4 5 6 7 8 9 10 11"), 12);
        is("a 13th", Texts.way(x, "0 1 2 3 4 5 6 7 8 9 10 11 0"), -8);
        is("its place", x.fault(), 26);
        is("a sign for a 13th", Texts.way(x, "0 1 2 3 4 5 6 7 8 9 10 11 a"), -9);
        is("the way stays", x.told(7), 12);
    }

    private static void spansAndWays() {
        promise = 7;
        LacedHoles x = booted("rows 2 3;apart 30 20;torn 4;");
        is("along", x.span(2, 3), 20000);
        is("along two", x.span(4, 2), 40000);
        is("across", x.span(0, 2), 30000);
        is("aslant", x.span(0, 3), 36055);
        is("aslant", x.span(4, 0), 50000);
        noHole("span(5, 5)", () -> x.span(5, 5));
        noHole("span(-1, 0)", () -> x.span(-1, 0));
        noHole("span(0, 5)", () -> x.span(0, 5));
        badArgument("span(1, 1)", () -> x.span(1, 1));
        is("as far as can be", booted("apart 99 99;").span(0, 11), 504802);
        promise = 8;
        is("at without a way", x.at(0), -1);
        Texts.way(x, "3 1 0");
        holesAre(x, 3, 1, 0);
        is("at(3)", x.at(3), -1);
        is("at(-1)", x.at(-1), -1);
        is("at the least number", x.at(Integer.MIN_VALUE), -1);
        promise = 9;
        LacedHoles y = booted(RECTANGLE + "law 2;");
        noWay("judge", y::judge);
        Texts.way(y, "1 2 0 3");
        is("against, as told from its first", y.judge(), 1);
        Texts.way(y, "3 1 0 2");
        is("lawful", y.judge(), -1);
        LacedHoles z = booted("rows 3 3;law 1;");
        Texts.way(z, "3 4 5 2 1 0");
        is("along at 4", z.judge(), 4);
        Texts.way(z, "5 2 1 0 3 4");
        is("along at 1", z.judge(), 1);
        Texts.way(z, "0 3 1 4 2 5");
        is("more than one across", z.judge(), -1);
    }

    private static void measures() {
        promise = 10;
        LacedHoles x = booted(RECTANGLE + "lace 14;");
        noWay("measure(9)", () -> x.measure(9));
        Texts.way(x, "2 3 1 0");
        badArgument("measure(5)", () -> x.measure(5));
        badArgument("measure(-1)", () -> x.measure(-1));
        is("length", x.measure(0), 14000);
        is("pull", x.measure(1), 2000000);
        is("across", x.measure(2), 2);
        is("turns", x.measure(3), 0);
        is("as long as the lace", x.measure(4), 1);
        Texts.way(x, "0 2 1 3");
        is("longer than the lace", x.measure(4), 0);
        is("across", x.measure(2), 4);
        is("pull", x.measure(1), 3200000);
        LacedHoles y = new LacedHoles();
        Texts.way(y, "0 2 1 3 6 10");
        is("length", y.measure(0), 332522);
        is("pull", y.measure(1), 798337);
        is("turns", y.measure(3), 2);
        Texts.way(y, "3 2 1");
        is("turns along one row", y.measure(3), 3);
        is("pull of none across", y.measure(1), 0);
    }

    private static void numbers() {
        promise = 11;
        LacedHoles x = booted(RECTANGLE);
        noWay("number", x::number);
        Texts.way(x, "3 1 2 0");
        is("number", x.number(), 2);
        Texts.way(x, "3 2 1 0");
        is("number", x.number(), 0);
        Texts.way(x, "1 3 2 0");
        is("number", x.number(), 1);
        Texts.boot(x, RECTANGLE + "law 2;");
        Texts.way(x, "0 2 1 3");
        is("number of no lawful one", x.number(), -1);
        promise = 12;
        LacedHoles y = booted("rows 6 6;torn 11;");
        is("count of 3", y.count(1 + 64 + 1024), 1);
        is("count of 11", y.count(2047), 1814400);
        badArgument("count of torn ones", () -> y.count(4095));
        badArgument("count of no holes", () -> y.count(4096 + 7));
        badArgument("count of all bits", () -> y.count(-1));
        badArgument("count of 2", () -> y.count(3));
        badArgument("count of none", () -> y.count(0));
        Texts.boot(y, "law 1;");
        is("law 1 along", y.count(7), 0);
        is("law 1 of 3", y.count(1 + 2 + 64), 1);
        is("law 1 of all", y.count(4095), 3758400);
        Texts.boot(y, "law 2;");
        is("law 2 of all", y.count(4095), 86400);
        is("law 2 of odd ones", y.count(2047), 0);
        promise = 13;
        LacedHoles z = booted("rows 3 3;law 1;");
        badArgument("take of 2", () -> z.take(3, 0));
        badArgument("take of no holes", () -> z.take(64 + 7, 0));
        is("take", z.take(63, 41), 6);
        holesAre(z, 0, 4, 3, 2, 1, 5);
        is("take of no number", z.take(63, 42), -1);
        is("take of -1", z.take(63, -1), -1);
        is("take of a long one", z.take(63, 1L << 40), -1);
        holesAre(z, 0, 4, 3, 2, 1, 5);
        for (int i = 0; i < 42; i++) {
            z.take(63, i);
            is("number of take", z.number(), i);
        }
    }

    private static void bests() {
        promise = 14;
        LacedHoles x = booted(RECTANGLE);
        badArgument("best of -1", () -> x.best(15, -1));
        badArgument("best of 3", () -> x.best(15, 3));
        badArgument("best of 2 holes", () -> x.best(3, 0));
        badArgument("best of no holes", () -> x.best(31, 0));
        is("shortest", x.best(15, 0), 14000);
        holesAre(x, 0, 1, 3, 2);
        is("longest", x.best(15, 1), 18000);
        holesAre(x, 0, 1, 2, 3);
        is("strongest", x.best(15, 2), 3200000);
        holesAre(x, 0, 2, 1, 3);
        is("of some", x.best(14, 2), 1600000);
        holesAre(x, 1, 2, 3);
        Texts.boot(x, RECTANGLE + "law 2;");
        is("strongest by law", x.best(15, 2), 2000000);
        is("none", x.best(7, 0), -1);
        holesAre(x, 0, 1, 3, 2);
        Texts.boot(x, "rows 3 3;apart 30 40;");
        is("of the left row", x.best(7, 0), 160000);
        is("of the right row", x.best(56, 0), 160000);
        Texts.boot(x, "rows 6 1;apart 30 20;");
        is("alike ones: the first", x.best(63, 0), 200000);
        holesAre(x, 0, 1, 2, 3, 4, 5);
        promise = 15;
        LacedHoles y = booted("rows 4 4;apart 99 1;law 2;");
        noWay("against", y::against);
        Texts.way(y, "0 1 2 3 7 6 5 4");
        is("shorter, not lawful", y.against(), -2);
        y.best(255, 0);
        is("as long", y.against(), 0);
        y.best(255, 1);
        is("longer", y.against(), 1);
        Texts.way(y, "0 1 2");
        is("none lawful", y.against(), -1);
    }

    private static void laces() {
        promise = 16;
        LacedHoles x = new LacedHoles();
        int[][] due = {{14, 0, 0}, {13, 1, 1000}, {12, 1, 2000}, {11, -1, 3000}, {9999, 0, 0}};
        for (int[] row : due) {
            Texts.boot(x, RECTANGLE + "lace " + row[0] + ";");
            is("leave at " + row[0], x.leave(), row[1]);
            is("too short at " + row[0], x.tooShort(), row[2]);
        }
        Texts.boot(x, "rows 3 3;apart 1 99;lace 199;");
        is("leave: no 3 do", x.leave(), -1);
        Texts.boot(x, "rows 3 3;apart 1 99;lace 200;");
        is("leave: an end, that of the least bits", x.leave(), 1 + 8);
        Texts.boot(x, "rows 4 1;apart 99 1;lace 6;");
        is("leave the right one", x.leave(), 16);
        Texts.boot(x, "rows 4 1;apart 99 1;lace 200;");
        is("leave one rather than two of less bits", x.leave(), 16);
        Texts.boot(x, "rows 4 1;apart 99 1;lace 6;torn 4;");
        is("torn ones are not left out", x.leave(), 0);
        Texts.boot(x, "rows 2 2;apart 1 1;lace 1;");
        is("leave: no set", x.leave(), -1);
        Texts.boot(x, "rows 1 1;");
        is("leave: 2 holes", x.leave(), -1);
        promise = 17;
        is("too short: 2 holes", x.tooShort(), -1);
        Texts.boot(x, "rows 3 3;law 2;");
        is("too short: none lawful", x.tooShort(), -1);
        is("leave by law", x.leave(), 1 + 8);
        Texts.boot(x, "rows 2 1;apart 1 1;lace 3;");
        is("too short: 2 and a root of 2 by 3", x.tooShort(), 414);
    }

    private static void images() {
        promise = 18;
        LacedHoles x = booted(RECTANGLE);
        is("alike", x.alike(), 3);
        Texts.boot(x, RECTANGLE + "law 2;");
        is("alike by law", x.alike(), 2);
        Texts.boot(x, "rows 1 1;");
        is("alike of 2", x.alike(), 0);
        Texts.boot(x, "rows 3 3;law 2;");
        is("alike: no lawful one", x.alike(), 0);
        Texts.boot(x, "rows 3 3;");
        is("alike of 6", x.alike(), 24);
        Texts.boot(x, "rows 4 4;");
        is("alike of 8", x.alike(), 720);
        Texts.boot(x, "rows 5 5;");
        is("alike of 10", x.alike(), -1);
        Texts.boot(x, "rows 3 2;");
        is("alike of unlike rows", x.alike(), -1);
        Texts.boot(x, "rows 3 3;torn 0;torn 3;");
        is("alike with torn ones", x.alike(), -1);
        promise = 19;
        noWay("itself", x::itself);
        Texts.way(x, "1 2 4");
        is("itself with torn ones", x.itself(), -1);
        Texts.boot(x, "rows 6 6;");
        Texts.way(x, "0 1 2 3 4 5 11 10 9 8 7 6");
        is("round about", x.itself(), 4);
        Texts.way(x, "1 4 7 10");
        is("some holes", x.itself(), 4);
        Texts.way(x, "0 1 6");
        is("a corner", x.itself(), 1);
        Texts.way(x, "0 5 8");
        is("turned", x.itself(), 1);
        Texts.way(x, "0 6 5 11");
        is("turned, mirrored", x.itself(), 4);
        Texts.way(x, "0 1 7 11 10 4");
        is("only both", x.itself(), 2);
        Texts.way(x, "0 1 11 10");
        is("by both", x.itself(), 2);
        Texts.way(x, "0 1 7 6");
        is("by mirror", x.itself(), 2);
        Texts.way(x, "0 1 4 5");
        is("by turning", x.itself(), 2);
        Texts.boot(x, "rows 6 5;");
        Texts.way(x, "0 1 4 5");
        is("unlike rows", x.itself(), -1);
    }

    private static void colours() {
        promise = 20;
        LacedHoles x = booted("rows 3 3;apart 30 40;");
        is("two rows", x.two(7), 320000);
        is("two ends", x.two(11), 240000);
        is("the other colour", x.two(52), 240000);
        is("too few", x.two(3), -1);
        is("too few others", x.two(15), -1);
        is("none", x.two(0), -1);
        badArgument("no holes", () -> x.two(64));
        badArgument("all bits", () -> x.two(-1));
        Texts.boot(x, "rows 4 3;apart 30 40;torn 3;law 1;");
        badArgument("torn", () -> x.two(8));
        is("not lawful", x.two(7), -1);
        promise = 21;
        is("colours", x.colours(), 1 + 2 + 16);
        Texts.boot(x, "rows 3 3;apart 30 40;");
        is("colours", x.colours(), 11);
        Texts.boot(x, "rows 3 2;");
        is("colours of 5", x.colours(), -1);
        Texts.boot(x, "rows 3 4;apart 1 99;torn 4;");
        is("two rows are nearer than ends", x.colours() >= 0 ? 1 : 0, 1);
        Texts.boot(x, "rows 3 4;apart 99 1;");
        is("half of 7, cut", x.colours(), 7);
        Texts.boot(x, "rows 4 3;apart 99 1;");
        is("half of 7, cut", x.colours(), 112);
        Texts.boot(x, "rows 3 3;law 2;");
        is("none lawful", x.colours(), -1);
    }

    private static void pictures() {
        promise = 22;
        LacedHoles x = booted("rows 6 6;torn 11;");
        noHole("see(12, 12)", () -> x.see(12, 12));
        noHole("see(0, -1)", () -> x.see(0, -1));
        badArgument("see(0, 0)", () -> x.see(0, 0));
        badArgument("see of one torn hole", () -> x.see(11, 11));
        is("see of a torn one", x.see(0, 11), -1);
        is("see", x.see(0, 6), 1);
        is("see again", x.see(6, 0), -1);
        is("see at one end", x.see(1, 6), -1);
        is("see", x.see(5, 1), 2);
        promise = 23;
        is("blind", x.blind(), 2);
        is("blind again", x.blind(), 0);
        is("see anew", x.see(6, 0), 1);
        Texts.boot(x, "rows 6 6;");
        for (int i = 0; i < 6; i++) {
            is("see", x.see(i, i + 6), i + 1);
        }
        is("a seventh", x.see(0, 1), -1);
        promise = 24;
        is("within 12", x.within(), 3840);
        Texts.boot(x, "rows 3 3;law 2;");
        is("within nothing", x.within(), 0);
        x.see(0, 3);
        is("within one span", x.within(), 0);
        promise = 25;
        Texts.way(x, "1 2 3");
        is("guess of one span", x.guess(), -1);
        holesAre(x, 1, 2, 3);
        x.see(1, 4);
        is("within two", x.within(), 1);
        is("guess of two", x.guess(), 4);
        holesAre(x, 0, 1, 4, 3);
        promise = 24;
        x.see(2, 5);
        is("within three by law 2", x.within(), 0);
        is("guess of three by law 2", x.guess(), -1);
        Texts.boot(x, "rows 3 3;");
        x.see(1, 0);
        x.see(4, 2);
        is("within by no law", x.within(), 2);
        x.guess();
        holesAre(x, 0, 1, 2, 4);
        promise = 26;
        Texts.boot(x, RECTANGLE);
        noWay("seen", x::seen);
        Texts.way(x, "0 1 3 2");
        is("nothing seen", x.seen(), 0);
        x.see(0, 1);
        is("half of it seen", x.seen(), 0);
        x.see(3, 2);
        is("seen by the first", x.seen(), 1);
        Texts.way(x, "1 3 2 0");
        is("seen by the second", x.seen(), 2);
        Texts.way(x, "3 2 0 1");
        is("seen by the first", x.seen(), 1);
        Texts.way(x, "0 2 1 3");
        is("not seen", x.seen(), 0);
        Texts.way(x, "0 1 2");
        is("odd", x.seen(), 0);
    }

    private static void knots() {
        promise = 27;
        LacedHoles x = booted(RECTANGLE);
        noWay("knot", () -> x.knot(-1, 2));
        Texts.way(x, "0 1 3 2");
        badArgument("knot(-1, 0)", () -> x.knot(-1, 0));
        badArgument("knot(1000, 0)", () -> x.knot(1000, 0));
        badArgument("knot(0, 2)", () -> x.knot(0, 2));
        badArgument("knot(0, -1)", () -> x.knot(0, -1));
        int[][] due = {{0, 1, 2}, {2, 1, 2}, {3, 0, 2}, {4, 0, 3}, {999, 0, 3}};
        for (int[] row : due) {
            is("first at " + row[0], x.knot(row[0], 0), row[1]);
            is("last at " + row[0], x.knot(row[0], 1), row[2]);
        }
        Texts.way(x, "1 3 2 0");
        is("first from 1 on", x.knot(3, 0), 1);
        is("last from 1 on", x.knot(3, 1), 3);
        is("first from 1 on", x.knot(4, 0), 0);
        Texts.way(x, "0 2 1");
        is("the midst within a span", x.knot(0, 0), 1);
        is("the midst within a span", x.knot(0, 1), 1);
    }

    private static void wears() {
        promise = 28;
        LacedHoles x = booted(RECTANGLE);
        noHole("wear ahead of no way", () -> x.wear(4));
        noHole("wear(-1)", () -> x.wear(-1));
        noWay("wear", () -> x.wear(0));
        promise = 29;
        noWay("keep", x::keep);
        promise = 28;
        Texts.way(x, "0 2 1");
        is("wear at an end", x.wear(0), 2);
        is("wear across", x.wear(2), 1);
        is("wear of none", x.wear(3), 0);
        Texts.boot(x, "rows 6 6;");
        Texts.way(x, "0 1 2");
        is("wear along", x.wear(1), 3);
        promise = 29;
        for (int i = 1; i <= 4; i++) {
            is("keep", x.keep(), i);
        }
        is("a fifth", x.keep(), -1);
        is("kept", x.sums(0), 4);
        promise = 30;
        is("drop", x.drop(), 4);
        is("drop again", x.drop(), 0);
        is("the way stays", x.told(7), 3);
        promise = 31;
        is("weeks of none", x.weeks(1, 0), -1);
        badArgument("weeks(0, 0)", () -> x.weeks(0, 0));
        badArgument("weeks(13, 0)", () -> x.weeks(13, 0));
        badArgument("weeks(1, 2)", () -> x.weeks(1, 2));
        badArgument("weeks(1, -1)", () -> x.weeks(1, -1));
        x.keep();
        is("one for 12 weeks", x.weeks(12, 0), 36);
        is("its row", x.weeks(12, 1), 12);
        Texts.way(x, "6 7 8");
        x.keep();
        is("two for 12 weeks", x.weeks(12, 0), 18);
        is("their row", x.weeks(12, 1), 606);
        is("two for 3 weeks", x.weeks(3, 0), 6);
        is("their row", x.weeks(3, 1), 102);
        Texts.way(x, "3 4 5");
        x.keep();
        Texts.way(x, "9 10 11");
        x.keep();
        is("four for 10 weeks", x.weeks(10, 0), 9);
        is("their row", x.weeks(10, 1), 1030303);
        is("four for 1 week", x.weeks(1, 1), 1);
        x.drop();
        Texts.way(x, "0 6 1 7");
        x.keep();
        Texts.way(x, "0 1 7 6");
        x.keep();
        is("all weeks for the first", x.weeks(3, 1), 300);
        is("its wear", x.weeks(3, 0), 3);
        Texts.way(x, "0 6 2");
        is("weeks ask the kept ones alone", x.weeks(3, 1), 300);
    }

    private static void drawn() {
        promise = 32;
        LacedHoles x = booted(RECTANGLE + "law 0;");
        int[][] due = {{0, 0}, {1, 0}, {2, 1}, {3, 1}, {5, 2}, {7, 0}, {-1, 0}, {Integer.MIN_VALUE, 0}, {Integer.MIN_VALUE + 4, 2}, {Integer.MAX_VALUE, 0}};
        for (int[] row : due) {
            is("draw " + row[0], x.draw(row[0]), 4);
            is("number by " + row[0], x.number(), row[1]);
        }
        Texts.boot(x, "rows 2 1;");
        is("draw of 3", x.draw(99), 3);
        Texts.boot(x, "rows 1 1;");
        is("draw of 2", x.draw(1), -1);
        Texts.boot(x, "rows 2 1;law 2;");
        Texts.way(x, "0 1 2");
        is("draw of none lawful", x.draw(1), -1);
        is("the way stays", x.told(7), 3);
        promise = 33;
        Texts.boot(x, RECTANGLE);
        is("image without a way", x.image(), 1);
        Texts.way(x, "0 1 2");
        x.see(0, 2);
        x.keep();
        is("image", x.image(), 2);
        Texts.way(x, "3 2 1 0");
        x.see(1, 3);
        x.keep();
        is("image", x.image(), 3);
        is("a fourth", x.image(), -1);
        promise = 34;
        x.blind();
        x.drop();
        Texts.way(x, "1 0 3");
        is("restore", x.restore(), 2);
        holesAre(x, 3, 2, 1, 0);
        is("kept", x.sums(0), 2);
        is("seen", x.sums(1), 2);
        is("picture", x.see(1, 2), -1);
        is("restore", x.restore(), 1);
        holesAre(x, 0, 1, 2);
        is("kept", x.sums(0), 1);
        is("wear kept", x.weeks(1, 0), 2);
        is("seen", x.sums(1), 1);
        is("picture", x.see(1, 3), 2);
        x.feed(0, 0, 0, 0, 0);
        is("restore", x.restore(), 0);
        is("no way", x.told(7), 0);
        is("kept", x.sums(0), 0);
        is("seen", x.sums(1), 0);
        is("restore without", x.restore(), -1);
        promise = 35;
        is("the tape stays", x.sums(3), 20);
        is("images", x.sums(2), 0);
        is("sums(4)", x.sums(4), -1);
        is("sums(-1)", x.sums(-1), -1);
    }

    /** Sums that doubles would take for others, or other ones for alike. */
    private static void exactness() {
        promise = 14;
        // Spans across of 5, 13 and 37 by 12: wholes that roots must give without a rest.
        LacedHoles x = booted("rows 6 6;apart 12 5;lace 13;");
        is("a whole root", x.span(0, 7), 13000);
        is("aslant by 7", x.span(0, 11), 27730);
        Texts.way(x, "0 1 7");
        is("5, 12 and 13", x.measure(0), 30000);
        is("12 by 13 and 1", x.measure(1), 1923076);
        Texts.boot(x, "rows 6 6;apart 12 5;lace 30;");
        Texts.way(x, "7 1 0");
        is("just so long", x.measure(4), 1);
        // Roots of 2, 8 and 18 hang together: ways of other spans are just as long.
        Texts.boot(x, "rows 6 6;apart 7 1;");
        x.best(4095, 1);
        long first = x.number();
        long length = x.measure(0);
        is("no longest one ahead", earlierAsLong(x, first, length), 0);
    }

    private static long earlierAsLong(LacedHoles x, long first, long length) {
        long found = 0;
        for (long number = Math.max(0, first - 100); number < first; number++) {
            x.take(4095, number);
            found += x.measure(0) > length ? 1 : 0;
        }
        return found;
    }
}
