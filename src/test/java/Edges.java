import java.io.IOException;
import java.nio.charset.StandardCharsets;
import java.nio.file.Files;
import java.nio.file.Path;
import java.util.Set;
import java.util.TreeSet;
import java.util.function.Supplier;
import java.util.function.ToLongFunction;

/** What the tests of the document's boundaries share: each edge names its promise and quotes its sentence. */
abstract class Edges {
    static final String ARGUMENT = "throws IllegalArgumentException";
    static final String INDEX = "throws IndexOutOfBoundsException";
    static final String NO_SUCH = "throws NoSuchElementException";
    static final String NONE = "-1";

    private static final Path PAGE = Path.of("../shared/DOC.md");
    private static final String DOCUMENT = document();
    private static final Set<Integer> TESTED = new TreeSet<>();

    private static String now = "";
    private static int edges = 0;
    private static int wrong = 0;

    // ---- edges

    /** A test of its own: the promise, the words of the document, which edge of them, what must hold. */
    static void edge(int promise, String sentence, String edge, Runnable body) {
        now = "promise " + promise + ", \"" + sentence + "\", " + edge;
        edges++;
        TESTED.add(promise);
        if (!DOCUMENT.isEmpty() && !stands(promise, sentence)) {
            fault("the document does not say so there");
        }
        try {
            body.run();
        } catch (RuntimeException e) {
            fault("threw " + e);
        }
    }

    /** The call on the object answers (or throws) what is due. */
    static void answers(int promise, String sentence, String edge, Supplier<LacedHoles> object,
            ToLongFunction<LacedHoles> call, String due) {
        edge(promise, sentence, edge, () -> is("the call", outcome(object.get(), call), due));
    }

    /** The call on the object answers (or throws) what is due, and leaves all as it was. */
    static void refused(int promise, String sentence, String edge, Supplier<LacedHoles> object,
            ToLongFunction<LacedHoles> call, String due) {
        edge(promise, sentence, edge, () -> {
            LacedHoles called = object.get();
            is("the call", outcome(called, call), due);
            is("the state behind it", story(called), story(object.get()));
        });
    }

    /** The call on an object that holds some of all leaves all as it was. */
    static void asks(int promise, String sentence, ToLongFunction<LacedHoles> call) {
        edge(promise, sentence, "nothing changes by it", () -> {
            LacedHoles asked = laden().get();
            call.applyAsLong(asked);
            is("the state behind it", story(asked), story(laden().get()));
        });
    }

    /** The call on an object that holds some of all makes another WAY, and leaves the rest as it was. */
    static void changesWay(int promise, String sentence, ToLongFunction<LacedHoles> call) {
        edge(promise, sentence, "nothing else changes by it", () -> {
            LacedHoles changed = laden().get();
            LacedHoles plain = laden().get();
            is("holes of the way", call.applyAsLong(changed), changed.told(7));
            // What a guess makes of the picture takes the place of both ways.
            changed.guess();
            plain.guess();
            is("the state behind it", story(changed), story(plain));
        });
    }

    static void is(String what, long got, long due) {
        is(what, String.valueOf(got), String.valueOf(due));
    }

    static void is(String what, String got, String due) {
        if (!got.equals(due)) {
            fault(what + ": " + got + ", due is " + due);
        }
    }

    static void holesAre(LacedHoles x, int... holes) {
        is("holes of the way", x.told(7), holes.length);
        for (int i = 0; i < holes.length; i++) {
            is("at(" + i + ")", x.at(i), holes[i]);
        }
        is("at(" + holes.length + ")", x.at(holes.length), -1);
    }

    static String outcome(LacedHoles x, ToLongFunction<LacedHoles> call) {
        try {
            return String.valueOf(call.applyAsLong(x));
        } catch (RuntimeException e) {
            return "throws " + e.getClass().getSimpleName();
        }
    }

    private static void fault(String what) {
        wrong++;
        System.out.println(now + ": " + what);
    }

    /** Ends the test: each of these promises must have had an edge. */
    static void end(int... promises) {
        for (int promise : promises) {
            if (!TESTED.contains(promise)) {
                now = "promise " + promise;
                fault("no edge was tested");
            }
        }
        System.out.println(edges + " edges, " + wrong + " faults");
        if (wrong > 0) {
            System.exit(1);
        }
    }

    // ---- the document

    private static String document() {
        try {
            return Files.isReadable(PAGE) ? plain(Files.readString(PAGE, StandardCharsets.UTF_8)) : "";
        } catch (IOException e) {
            return "";
        }
    }

    private static String plain(String text) {
        return text.replace("`", "").replaceAll("\\s+", " ");
    }

    /** Whether the words stand in this promise, or ahead of it ("so below"). */
    private static boolean stands(int promise, String sentence) {
        int start = DOCUMENT.indexOf("## Promise " + promise + ":");
        int stop = DOCUMENT.indexOf("## ", start + 3);
        return start >= 0 && stop > start && DOCUMENT.substring(0, stop).contains(sentence);
    }

    // ---- objects

    static Supplier<LacedHoles> fresh() {
        return LacedHoles::new;
    }

    static Supplier<LacedHoles> on(String boot) {
        return () -> {
            LacedHoles x = new LacedHoles();
            if (Texts.boot(x, boot) < 0) {
                throw new IllegalStateException("boot " + boot);
            }
            return x;
        };
    }

    static Supplier<LacedHoles> on(String boot, String way) {
        return with(on(boot), x -> {
            if (Texts.way(x, way) < 0) {
                throw new IllegalStateException("way " + way);
            }
            return 0;
        });
    }

    static Supplier<LacedHoles> with(Supplier<LacedHoles> object, ToLongFunction<LacedHoles> call) {
        return () -> {
            LacedHoles x = object.get();
            call.applyAsLong(x);
            return x;
        };
    }

    /** An object that holds some of all: a WAY, a PICTURE, KEPT ones, two IMAGES, a FAULT, a WAY's text on the TAPE. */
    static Supplier<LacedHoles> laden() {
        return Edges::makeLaden;
    }

    private static LacedHoles makeLaden() {
        LacedHoles x = on("rows 5 4;apart 7 11;torn 8;law 0;lace 77;", "4 6 0 1").get();
        x.see(0, 5);
        x.see(6, 2);
        x.keep();
        x.image();
        Texts.way(x, "3 1 5 7 2");
        x.keep();
        x.see(7, 4);
        x.image();
        x.drop();
        Texts.way(x, "0 1 2");
        x.keep();
        Texts.way(x, "7 2 5");
        x.keep();
        Texts.way(x, "6 7 4 3");
        x.keep();
        Texts.way(x, "7 2 5");
        x.blind();
        x.see(4, 3);
        x.see(7, 1);
        // Hole 8 is torn: a fault at 4, and the way stays.
        Texts.way(x, "1 2 8");
        Texts.feed(x, "5 1 6 0 4");
        return x;
    }

    // ---- all that an object tells

    /** What the object holds, down through its IMAGES and the TAPE; it is used up by that. */
    static String story(LacedHoles x) {
        StringBuilder text = new StringBuilder();
        int images = x.sums(2);
        for (int i = 0; i <= images; i++) {
            tell(x, text);
            text.append(" restore ").append(x.restore());
        }
        text.append(" tape ").append(x.sums(3)).append(" way ").append(x.way(Math.min(100, x.sums(3))));
        text.append(" fault ").append(x.fault());
        tellHoles(x, text);
        return text.toString();
    }

    private static void tell(LacedHoles x, StringBuilder text) {
        text.append(" fault ").append(x.fault()).append(" told");
        for (int what = 0; what <= 7; what++) {
            text.append(' ').append(x.told(what));
        }
        tellHoles(x, text);
        text.append(" sums");
        for (int what = 0; what <= 3; what++) {
            text.append(' ').append(x.sums(what));
        }
        text.append(" weeks ").append(x.weeks(1, 0)).append(' ').append(x.weeks(1, 1));
        text.append(' ').append(x.weeks(12, 0)).append(' ').append(x.weeks(12, 1));
        text.append(" within ").append(x.within()).append(" guess ").append(x.guess());
        tellHoles(x, text);
    }

    private static void tellHoles(LacedHoles x, StringBuilder text) {
        text.append(" holes");
        for (int i = 0; i < 12; i++) {
            text.append(' ').append(x.at(i));
        }
    }
}
