import java.lang.reflect.Field;
import java.lang.reflect.Method;
import java.lang.reflect.Modifier;
import java.nio.file.Files;
import java.nio.file.Path;
import java.util.Arrays;
import java.util.Set;
import java.util.TreeSet;
import java.util.regex.Matcher;
import java.util.regex.Pattern;

/** The face is the document's, and the source keeps to the rules of LANGUAGE.md that can be read off its text. */
public final class FaceTest {
    private static final String[] FACE = {
        "int alike() ", "int at(int) ", "int blind() ", "int colours() ", "int draw(int) ", "int drop() ",
        "int fault() ", "int feed(int,int,int,int,int) ", "int guess() ", "int image() ", "int leave() ",
        "int restore() ", "int sums(int) ", "int tooShort() ", "int within() ",
        "int boot(int) IllegalArgumentException", "int way(int) IllegalArgumentException",
        "int told(int) IllegalArgumentException", "long count(int) IllegalArgumentException",
        "int take(int,long) IllegalArgumentException", "int best(int,int) IllegalArgumentException",
        "int two(int) IllegalArgumentException", "int weeks(int,int) IllegalArgumentException",
        "int span(int,int) IndexOutOfBoundsException,IllegalArgumentException",
        "int see(int,int) IndexOutOfBoundsException,IllegalArgumentException",
        "int judge() NoSuchElementException", "long number() NoSuchElementException",
        "int against() NoSuchElementException", "int itself() NoSuchElementException",
        "int seen() NoSuchElementException", "int keep() NoSuchElementException",
        "int measure(int) NoSuchElementException,IllegalArgumentException",
        "int knot(int,int) NoSuchElementException,IllegalArgumentException",
        "int wear(int) IndexOutOfBoundsException,NoSuchElementException"};
    private static final String[] RULED_OUT = {
        "(?m)^(?!.*\\b(case|default)\\b).*->", "::", "\\bfinally\\b", "\\bsynchronized\\b", "\\bassert\\b",
        "\\bSystem\\.(?!arraycopy)", "\\w+Exact\\b", "\\bboolean equals\\(", "\\bint hashCode\\(", "\\bString toString\\(",
        "\\bString\\.", "\\bstatic \\{", "\\bprotected\\b", "\\bgetMessage\\b", "[^\\x00-\\x7f]",
        // What the machine throws by itself answers no call.
        "\\bcatch \\([^)]*\\b(Throwable|Exception|Error|ArrayIndexOutOfBoundsException|NullPointerException"
            + "|ClassCastException|NegativeArraySizeException|ArrayStoreException)\\b"};
    private static final Set<String> LIBRARY = Set.of("java.util.ArrayList", "java.util.Arrays", "java.util.Iterator",
        "java.util.List", "java.util.NoSuchElementException");

    private static int wrong = 0;

    private static void fault(String what) {
        wrong++;
        System.out.println(what);
    }

    public static void main(String[] args) throws Exception {
        checkFace();
        checkNames();
        checkSource(Files.readString(Path.of("src/main/java/LacedHoles.java")));
        System.out.println(wrong == 0 ? "the face and the rules are kept" : wrong + " faults of face or rules");
        if (wrong != 0) {
            System.exit(1);
        }
    }

    private static String names(Class<?>[] classes) {
        StringBuilder text = new StringBuilder();
        for (Class<?> one : classes) {
            text.append(text.length() == 0 ? "" : ",").append(one.getSimpleName());
        }
        return text.toString();
    }

    private static void checkFace() throws Exception {
        if (!Modifier.isFinal(LacedHoles.class.getModifiers()) || !Modifier.isPublic(LacedHoles.class.getModifiers())) {
            fault("the class is not public and final");
        }
        if (LacedHoles.class.getConstructors().length != 1 || LacedHoles.class.getConstructor() == null) {
            fault("other constructors than the one");
        }
        if (LacedHoles.class.getField("NONE").getInt(null) != -1) {
            fault("NONE");
        }
        Set<String> found = new TreeSet<>();
        for (Method method : LacedHoles.class.getDeclaredMethods()) {
            if (!Modifier.isPrivate(method.getModifiers())) {
                found.add(method.getReturnType() + " " + method.getName() + "(" + names(method.getParameterTypes()) + ") "
                    + names(method.getExceptionTypes()));
            }
        }
        if (!found.equals(new TreeSet<>(Arrays.asList(FACE)))) {
            fault("the face is " + found);
        }
        for (Field field : LacedHoles.class.getDeclaredFields()) {
            if (!Modifier.isPrivate(field.getModifiers()) && !field.getName().equals("NONE")) {
                fault("open field " + field);
            }
        }
    }

    private static void checkNames() {
        Set<String> open = new TreeSet<>();
        for (String line : FACE) {
            open.add(line.substring(line.indexOf(' ') + 1, line.indexOf('(')));
        }
        for (Class<?> inner : LacedHoles.class.getDeclaredClasses()) {
            if (Modifier.isPublic(inner.getModifiers()) || Modifier.isProtected(inner.getModifiers())) {
                fault("class " + inner);
            }
            checkMethods(inner, open);
            for (Field field : inner.getDeclaredFields()) {
                int kind = field.getModifiers();
                if (Modifier.isStatic(kind) && !Modifier.isFinal(kind)) {
                    fault("static field " + field);
                }
            }
        }
        checkMethods(LacedHoles.class, open);
        if (LacedHoles.class.getDeclaredClasses().length > 13) {
            fault("more than some twelve classes");
        }
    }

    private static void checkMethods(Class<?> owner, Set<String> open) {
        for (Method method : owner.getDeclaredMethods()) {
            if (Modifier.isPrivate(method.getModifiers()) && open.contains(method.getName())) {
                fault("private method of a public one's name: " + method);
            }
            if (method.getParameterCount() > 7) {
                fault("parameters: " + method);
            }
        }
    }

    private static void checkSource(String source) {
        String code = source.replaceAll("(?s)/\\*.*?\\*/", "").replaceAll("//[^\n]*", "").replaceAll("\"[^\"\n]*\"", "\"\"");
        for (String pattern : RULED_OUT) {
            Matcher matcher = Pattern.compile(pattern).matcher(code);
            if (matcher.find()) {
                fault("ruled out: " + pattern + " at " + matcher.start());
            }
        }
        Matcher imports = Pattern.compile("import ([^;]+);").matcher(code);
        while (imports.find()) {
            if (!LIBRARY.contains(imports.group(1))) {
                fault("import " + imports.group(1));
            }
        }
    }
}
