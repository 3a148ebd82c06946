import java.lang.reflect.Constructor;
import java.lang.reflect.Field;
import java.lang.reflect.Member;
import java.lang.reflect.Method;
import java.lang.reflect.Modifier;
import java.nio.file.Files;
import java.nio.file.Path;
import java.util.Arrays;
import java.util.HashSet;
import java.util.Set;
import java.util.TreeSet;
import java.util.regex.Matcher;
import java.util.regex.Pattern;

/** The public face as the document writes it, and those rules of LANGUAGE.md that can be seen from outside. */
public final class FaceTests {
    private static int wrong = 0;

    private static final String[] FACE = {
        "void control(int,int,int,int) throws IllegalArgumentException",
        "boolean has(int,int) throws IllegalArgumentException",
        "int clear()",
        "int close() throws IllegalStateException",
        "int count(int)",
        "int curve(int,int) throws IllegalArgumentException,IllegalStateException",
        "int dash(int) throws IllegalArgumentException,IllegalStateException",
        "int line(int,int) throws IllegalArgumentException,IllegalStateException",
        "int move(int,int) throws IllegalArgumentException,IllegalStateException",
        "int plain(int) throws IllegalArgumentException",
        "int share(int,int) throws IndexOutOfBoundsException",
        "long row(int) throws IndexOutOfBoundsException",
        "void pen(int,int,int,int) throws IllegalArgumentException",
    };

    private static final String LIBRARY = "Math\\.(min|max|abs|floorDiv|floorMod)|Long\\.(bitCount|signum)|Arrays\\.(copyOf|fill)";

    private static final String[] NEVER = {
        "\\btry\\b", "\\bcatch\\b", "\\bfinally\\b", "\\bassert\\b", "\\bsynchronized\\b", "->", "::", "\\bdouble\\b",
        "\\bfloat\\b", "Exact\\(", "\\bprotected\\b", "^package ", "static \\{", "\\bSystem\\.", "while \\(true\\)", "for \\(;;", ";\\s*;\\s*[^;]*\\) \\{", "\\binstanceof\\b",
        "\\.(equals|hashCode|toString|getMessage)\\(", "\\bnull\\b",
    };

    private static final int LONGEST_METHOD = 60;
    private static final int MOST_CLASSES = 12;
    private static final int MOST_FIELDS = 20;
    private static final int MOST_PARAMETERS = 7;

    private static void due(String what, Object got, Object want) {
        if (!got.equals(want)) {
            wrong++;
            System.out.println(what + ": " + got + ", due is " + want);
        }
    }

    private static String names(Class<?>[] types) {
        StringBuilder all = new StringBuilder();
        for (Class<?> type : types) {
            all.append(all.length() > 0 ? "," : "").append(type.getSimpleName());
        }
        return all.toString();
    }

    private static String written(Method m) {
        String thrown = names(m.getExceptionTypes());
        return m.getReturnType().getSimpleName() + " " + m.getName() + "(" + names(m.getParameterTypes()) + ")"
                + (thrown.isEmpty() ? "" : " throws " + thrown);
    }

    private static void face() throws Exception {
        Class<?> c = StrokeRaster.class;
        due("public and final", c.getModifiers(), Modifier.PUBLIC | Modifier.FINAL);
        Set<String> methods = new TreeSet<>();
        Set<String> publicNames = new HashSet<>();
        for (Method m : c.getDeclaredMethods()) {
            if (Modifier.isPublic(m.getModifiers())) {
                methods.add(written(m));
                publicNames.add(m.getName());
            }
        }
        due("methods", methods, new TreeSet<>(Arrays.asList(FACE)));
        Set<String> fields = new TreeSet<>();
        for (Field f : c.getFields()) {
            fields.add(Modifier.toString(f.getModifiers()) + " " + f.getType() + " " + f.getName());
        }
        due("fields", fields, new TreeSet<>(Arrays.asList("public static final int FULL", "public static final int NONE")));
        Constructor<?>[] constructors = c.getDeclaredConstructors();
        due("constructors", constructors.length, 1);
        due("constructor", constructors[0].getModifiers() + "/" + constructors[0].getParameterCount(), "1/0");
        hidden(c, publicNames);
    }

    private static void hidden(Class<?> c, Set<String> publicNames) {
        for (Method m : c.getDeclaredMethods()) {
            seen(m);
        }
        for (Field f : c.getDeclaredFields()) {
            seen(f);
        }
        measured(c, publicNames);
        for (Class<?> inside : c.getDeclaredClasses()) {
            due("static " + inside, Modifier.isStatic(inside.getModifiers()), true);
            due("not public " + inside, Modifier.isPublic(inside.getModifiers()), false);
            measured(inside, publicNames);
        }
        due("classes", c.getDeclaredClasses().length < MOST_CLASSES, true);
    }

    private static void measured(Class<?> c, Set<String> publicNames) {
        int own = 0;
        for (Field f : c.getDeclaredFields()) {
            own += Modifier.isStatic(f.getModifiers()) ? 0 : 1;
            due("final " + f, !Modifier.isStatic(f.getModifiers()) || Modifier.isFinal(f.getModifiers()), true);
        }
        due("fields of " + c, own <= MOST_FIELDS, true);
        for (Method m : c.getDeclaredMethods()) {
            due("parameters of " + m, m.getParameterCount() <= MOST_PARAMETERS, true);
            if (!Modifier.isPublic(m.getModifiers())) {
                due("a public one's name " + m, publicNames.contains(m.getName()), false);
            }
        }
    }

    private static void seen(Member m) {
        boolean shown = Modifier.isPublic(m.getModifiers()) || Modifier.isPrivate(m.getModifiers());
        due("neither public nor private: " + m.getName(), shown, true);
    }

    private static void text() throws Exception {
        int number = 0;
        for (String line : Files.readAllLines(Path.of("src/main/java/StrokeRaster.java"))) {
            number++;
            String code = line.replaceAll("\"[^\"]*\"", "\"\"").replaceAll("^\\s*(/\\*\\*|\\*|//).*", "");
            for (String never : NEVER) {
                due("line " + number + " has " + never, code.matches(".*(" + never + ").*"), false);
            }
            due("line " + number + " imports", code.startsWith("import ") && !code.equals("import java.util.Arrays;"), false);
            Matcher called = Pattern.compile("\\b(Math|Long|Integer|Arrays|String|Character)\\.\\w+").matcher(code);
            while (called.find()) {
                due("line " + number + " calls " + called.group(), called.group().matches(LIBRARY), true);
            }
            Matcher thrown = Pattern.compile("\\bthrow\\b(.*)").matcher(code);
            while (thrown.find()) {
                boolean plain = thrown.group(1).matches(
                        " new (IllegalArgument|IllegalState|IndexOutOfBounds)Exception\\(\"\"\\);");
                due("line " + number + " throws " + thrown.group(1), plain, true);
            }
            due("line " + number + " has a character beyond 255", line.chars().allMatch(ch -> ch < 256), true);
        }
    }

    /** A method begins where its head is written, and ends with the brace below it in the same column. */
    private static void lengths() throws Exception {
        int begun = 0;
        String indent = "";
        int number = 0;
        for (String line : Files.readAllLines(Path.of("src/main/java/StrokeRaster.java"))) {
            number++;
            if (begun == 0 && line.matches("    (    )?\\w[^=;]*\\) (throws [^{]*)?\\{")) {
                begun = number;
                indent = line.replaceAll("\\S.*", "");
            } else if (begun > 0 && line.equals(indent + "}")) {
                due("lines from " + begun + " on", number - begun < LONGEST_METHOD, true);
                begun = 0;
            }
        }
        due("all methods ended", begun, 0);
    }

    public static void main(String[] args) throws Exception {
        face();
        text();
        lengths();
        System.out.println(wrong == 0 ? "the face is as written" : wrong + " faults");
        if (wrong != 0) {
            System.exit(1);
        }
    }
}
