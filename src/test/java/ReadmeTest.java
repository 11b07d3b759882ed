import java.io.ByteArrayOutputStream;
import java.io.IOException;
import java.io.PrintStream;
import java.lang.reflect.InvocationTargetException;
import java.lang.reflect.Method;
import java.net.URL;
import java.net.URLClassLoader;
import java.nio.charset.StandardCharsets;
import java.nio.file.Files;
import java.nio.file.Path;
import java.util.Arrays;
import java.util.Comparator;
import java.util.NoSuchElementException;
import java.util.Set;
import java.util.TreeSet;
import java.util.regex.Matcher;
import java.util.regex.Pattern;
import java.util.stream.Stream;
import javax.tools.ToolProvider;

/** README.md holds: its program prints what it says; the calls, FAULTS, tests and files that it names are so. */
public final class ReadmeTest {
    private static int wrong = 0;
    private static String page = "";

    private static void is(String what, Object got, Object due) {
        if (!got.equals(due)) {
            wrong++;
            System.out.println("README.md, " + what + ": " + got + ", due is " + due);
        }
    }

    public static void main(String[] args) throws Exception {
        page = Files.readString(Path.of("README.md"), StandardCharsets.UTF_8);
        checkProgram();
        checkFaults();
        checkCallsThatWantAWay();
        checkCallsThatBringAWay();
        checkTests();
        checkFiles();
        System.out.println(wrong == 0 ? "the page holds" : wrong + " faults of the page");
        if (wrong != 0) {
            System.exit(1);
        }
    }

    private static String block(String kind) {
        Matcher matcher = Pattern.compile("(?s)```" + kind + "\n(.*?)```").matcher(page);
        return matcher.find() ? matcher.group(1) : "";
    }

    private static String section(String head) {
        int start = page.indexOf("# " + head + "\n");
        int stop = page.indexOf("\n#", start + 1);
        return start < 0 ? "" : page.substring(start, stop < 0 ? page.length() : stop);
    }

    private static Set<String> found(String pattern, String text) {
        Set<String> all = new TreeSet<>();
        Matcher matcher = Pattern.compile(pattern).matcher(text);
        while (matcher.find()) {
            all.add(matcher.group(1));
        }
        return all;
    }

    // ---- the program

    private static void checkProgram() throws Exception {
        Path room = Files.createTempDirectory("readme");
        try {
            Path source = room.resolve("Mine.java");
            Files.writeString(source, block("java"));
            int failed = ToolProvider.getSystemJavaCompiler().run(null, null, null, "-cp", System.getProperty("java.class.path"),
                "-d", room.toString(), source.toString());
            is("the program compiles", failed, 0);
            if (failed == 0) {
                is("what the program prints", printed(room), block("text"));
            }
        } finally {
            remove(room);
        }
    }

    private static String printed(Path room) throws Exception {
        PrintStream old = System.out;
        ByteArrayOutputStream bytes = new ByteArrayOutputStream();
        try (URLClassLoader loader = new URLClassLoader(new URL[] {room.toUri().toURL()});
                PrintStream out = new PrintStream(bytes, true, StandardCharsets.UTF_8)) {
            System.setOut(out);
            loader.loadClass("Mine").getMethod("main", String[].class).invoke(null, (Object) new String[0]);
        } finally {
            System.setOut(old);
        }
        return bytes.toString(StandardCharsets.UTF_8).replace(System.lineSeparator(), "\n");
    }

    private static void remove(Path room) throws IOException {
        try (Stream<Path> files = Files.walk(room)) {
            for (Path file : files.sorted(Comparator.reverseOrder()).toList()) {
                Files.delete(file);
            }
        }
    }

    // ---- FAULTS (promises 3, 4, 5)

    private static void checkFaults() {
        String forty = "law 1;".repeat(40);
        fault("law a;", null, -9, "| 1 | what can't stand there, or an early end | what can't stand there |");
        fault("law", "0 1 a", -9, "| 1 | what can't stand there, or an early end | what can't stand there |");
        fault("law 3;", "0 1 12", -8, "| 2 | a number that is none such | a number that is none such, torn, or there twice |");
        fault(null, "0 1 0", -8, "| 2 | a number that is none such | a number that is none such, torn, or there twice |");
        fault(null, "0 1 11", -8, "| 2 | a number that is none such | a number that is none such, torn, or there twice |");
        fault(forty + "law 1;", null, -7, "| 3 | a 41st clause | never: a 13th is always one of FAULT 2 |");
        fault(null, "0 1 2 3 4 5 6 7 8 9 10 11 0", -8, "| 3 | a 41st clause | never: a 13th is always one of FAULT 2 |");
        fault("law 1;rows 2 2;", "0 1", -6, "| 4 | rows too late, or again | fewer than 3 holes |");
        fault("rows 2 2;rows 2 2;", "", -6, "| 4 | rows too late, or again | fewer than 3 holes |");
    }

    private static void fault(String boot, String way, int answer, String row) {
        LacedHoles x = new LacedHoles();
        Texts.boot(x, "torn 11;");
        if (boot != null) {
            is("FAULT of the boot '" + boot + "'", Texts.boot(x, boot), answer);
        }
        if (way != null) {
            is("FAULT of the way '" + way + "'", Texts.way(x, way), answer);
        }
        is("a row of FAULTS that has " + row, section("FAULTS").contains(row), true);
        is("a row of FAULTS for " + answer, section("FAULTS").contains("| " + answer + " |"), true);
    }

    // ---- the WAY (promises 8 to 11, 13 to 15, 19, 25 to 29, 32, 34)

    private static void checkCallsThatWantAWay() throws Exception {
        String text = section("Calls that want a WAY");
        Set<String> told = found("`(\\w+)`", text.substring(0, Math.max(0, text.indexOf("A WAY comes by"))));
        Set<String> due = new TreeSet<>();
        for (Method method : LacedHoles.class.getMethods()) {
            if (method.getDeclaringClass() == LacedHoles.class) {
                boolean wants = Arrays.asList(method.getExceptionTypes()).contains(NoSuchElementException.class);
                is("whether " + method.getName() + " throws without a WAY", throwsWithout(method), wants);
                if (wants) {
                    due.add(method.getName());
                }
            }
        }
        is("calls that want a WAY", told, due);
    }

    private static boolean throwsWithout(Method method) throws Exception {
        Object[] zeros = new Object[method.getParameterCount()];
        for (int i = 0; i < zeros.length; i++) {
            zeros[i] = method.getParameterTypes()[i] == long.class ? (Object) 0L : (Object) 0;
        }
        try {
            method.invoke(new LacedHoles(), zeros);
            return false;
        } catch (InvocationTargetException e) {
            return e.getCause() instanceof NoSuchElementException;
        }
    }

    private static void checkCallsThatBringAWay() {
        String text = section("Calls that want a WAY");
        Set<String> told = found("`(\\w+)`", text.substring(Math.max(0, text.indexOf("A WAY comes by"))));
        is("calls that bring a WAY", told, new TreeSet<>(Set.of("way", "take", "best", "guess", "draw", "restore")));
        LacedHoles x = new LacedHoles();
        is("way", Texts.way(x, "3 4 5"), x.told(7));
        is("take", x.take(15, 0), x.told(7));
        is("best of five", x.best(31, 0) > 0, x.told(7) == 5);
        for (int hole = 0; hole < 6; hole += 2) {
            x.see(hole, hole + 1);
        }
        is("image", x.image(), 1);
        is("guess", x.guess(), x.told(7));
        is("draw", x.draw(0), x.told(7));
        x.restore();
        is("holes of the restored one", x.told(7), 5);
    }

    // ---- tests and files

    private static void checkTests() throws IOException {
        Set<String> due = new TreeSet<>();
        try (Stream<Path> files = Files.list(Path.of("src/test/java"))) {
            for (Path file : files.toList()) {
                due.addAll(found("^(\\w+Test)\\.java$", file.getFileName().toString()));
            }
        }
        is("tests", found("(?m)^\\| (\\w+Test) \\|", page), due);
    }

    private static void checkFiles() {
        Set<String> named = found("((?:src|\\.ci)(?:/\\w+)*/(?:\\w+\\.java|run))", page);
        named.add("NOTES.md");
        is("whether files are named", named.size() > 2, true);
        for (String name : named) {
            is("the file " + name, Files.exists(Path.of(name)), true);
        }
    }
}
