import java.lang.reflect.Field;
import java.lang.reflect.Method;
import java.lang.reflect.Modifier;
import java.nio.file.Files;
import java.nio.file.Path;
import java.util.Arrays;
import java.util.List;
import java.util.Set;
import java.util.TreeSet;
import java.util.regex.Matcher;
import java.util.regex.Pattern;

/** The face is the document's, and the source keeps to the rules of LANGUAGE.md that can be read off its text. */
public final class FaceTest {
    private static final String[] FACE = {
        "int alike() ", "int at(int) ", "int blind() ", "int colours() ", "int draw(int) ", "int drop() ",
        "int fault() ", "int feed(int,int,int,int,int) ", "int guess() ", "int image() ", "int leave() ",
        "int restore() ", "int sums(int) ", "int tooShort() ", "int within() ",
        "int boot(int) IllegalArgumentException", "int way(int) IllegalArgumentException",
        "int told(int) IllegalArgumentException", "long count(int) IllegalArgumentException",
        "int take(int,long) IllegalArgumentException", "int best(int,int) IllegalArgumentException",
        "int two(int) IllegalArgumentException", "int weeks(int,int) IllegalArgumentException",
        "int span(int,int) IndexOutOfBoundsException,IllegalArgumentException",
        "int see(int,int) IndexOutOfBoundsException,IllegalArgumentException",
        "int judge() NoSuchElementException", "long number() NoSuchElementException",
        "int against() NoSuchElementException", "int itself() NoSuchElementException",
        "int seen() NoSuchElementException", "int keep() NoSuchElementException",
        "int measure(int) NoSuchElementException,IllegalArgumentException",
        "int knot(int,int) NoSuchElementException,IllegalArgumentException",
        "int wear(int) IndexOutOfBoundsException,NoSuchElementException"};
    private static final String[] RULED_OUT = {
        "->", "::", "\\bcatch\\b", "\\bfinally\\b", "\\bsynchronized\\b", "\\bassert\\b", "\\bdouble\\b", "\\bfloat\\b",
        "\\bSystem\\.(?!arraycopy)", "\\w+Exact\\b", "\\bequals\\b", "\\bhashCode\\b", "\\btoString\\b", "@\\w+",
        "\\bString\\.", "\\bstatic \\{", "\\b(protected|volatile|transient|native)\\b", "[^\\x00-\\x7f]"};

    private static int wrong = 0;

    private static void fault(String what) {
        wrong++;
        System.out.println(what);
    }

    public static void main(String[] args) throws Exception {
        checkFace();
        checkNames();
        checkSource(Files.readString(Path.of("src/main/java/LacedHoles.java")));
        System.out.println(wrong == 0 ? "the face and the rules are kept" : wrong + " faults of face or rules");
        if (wrong != 0) {
            System.exit(1);
        }
    }

    private static String names(Class<?>[] classes) {
        StringBuilder text = new StringBuilder();
        for (Class<?> one : classes) {
            text.append(text.length() == 0 ? "" : ",").append(one.getSimpleName());
        }
        return text.toString();
    }

    private static void checkFace() {
        Set<String> found = new TreeSet<>();
        for (Method method : LacedHoles.class.getDeclaredMethods()) {
            if (!Modifier.isPrivate(method.getModifiers())) {
                found.add(method.getReturnType() + " " + method.getName() + "(" + names(method.getParameterTypes()) + ") "
                    + names(method.getExceptionTypes()));
            }
        }
        if (!found.equals(new TreeSet<>(Arrays.asList(FACE)))) {
            fault("the face is " + found);
        }
        for (Field field : LacedHoles.class.getDeclaredFields()) {
            if (!Modifier.isPrivate(field.getModifiers()) && !field.getName().equals("NONE")) {
                fault("open field " + field);
            }
        }
    }

    private static void checkNames() {
        Set<String> open = new TreeSet<>();
        for (String line : FACE) {
            open.add(line.substring(line.indexOf(' ') + 1, line.indexOf('(')));
        }
        for (Class<?> inner : LacedHoles.class.getDeclaredClasses()) {
            if (!Modifier.isStatic(inner.getModifiers()) || !Modifier.isPrivate(inner.getModifiers())) {
                fault("class " + inner);
            }
            for (Method method : inner.getDeclaredMethods()) {
                if (open.contains(method.getName())) {
                    fault("name of a public method: " + method);
                }
                if (method.getParameterCount() > 7) {
                    fault("parameters: " + method);
                }
            }
            for (Field field : inner.getDeclaredFields()) {
                int kind = field.getModifiers();
                if (Modifier.isStatic(kind) && !Modifier.isFinal(kind)) {
                    fault("static field " + field);
                }
            }
        }
        if (LacedHoles.class.getDeclaredClasses().length > 12) {
            fault("more than 12 classes");
        }
    }

    private static void checkSource(String source) {
        String code = source.replaceAll("(?s)/\\*.*?\\*/", "").replaceAll("//[^\n]*", "").replaceAll("\"[^\"\n]*\"", "\"\"");
        for (String pattern : RULED_OUT) {
            Matcher matcher = Pattern.compile(pattern).matcher(code);
            if (matcher.find()) {
                fault("ruled out: " + pattern + " at " + matcher.start());
            }
        }
        Matcher imports = Pattern.compile("import ([^;]+);").matcher(code);
        while (imports.find()) {
            if (!List.of("java.util.NoSuchElementException").contains(imports.group(1))) {
                fault("import " + imports.group(1));
            }
        }
    }
}
