import java.lang.reflect.Constructor;
import java.lang.reflect.Field;
import java.lang.reflect.Member;
import java.lang.reflect.Method;
import java.lang.reflect.Modifier;
import java.nio.file.Files;
import java.nio.file.Path;
import java.util.Arrays;
import java.util.HashSet;
import java.util.Set;
import java.util.TreeSet;

/** The public face as the document writes it, and those rules of LANGUAGE.md that can be seen from outside. */
public final class FaceTests {
    private static int wrong = 0;

    private static final String[] FACE = {
        "void control(int,int,int,int) throws IllegalArgumentException",
        "boolean has(int,int) throws IllegalArgumentException",
        "int clear()",
        "int close() throws IllegalStateException",
        "int count(int)",
        "int curve(int,int) throws IllegalArgumentException,IllegalStateException",
        "int dash(int) throws IllegalArgumentException,IllegalStateException",
        "int line(int,int) throws IllegalArgumentException,IllegalStateException",
        "int move(int,int) throws IllegalArgumentException,IllegalStateException",
        "int plain(int) throws IllegalArgumentException",
        "int share(int,int) throws IndexOutOfBoundsException",
        "long row(int) throws IndexOutOfBoundsException",
        "void pen(int,int,int,int) throws IllegalArgumentException",
    };

    private static final String[] NEVER = {
        "\\btry\\b", "\\bcatch\\b", "\\bfinally\\b", "\\bassert\\b", "\\bsynchronized\\b", "->", "::", "\\bdouble\\b",
        "\\bfloat\\b", "Exact\\(", "\\bprotected\\b", "^package ", "static \\{", "\\bSystem\\.(out|err|nano|current)",
    };

    private static void due(String what, Object got, Object want) {
        if (!got.equals(want)) {
            wrong++;
            System.out.println(what + ": " + got + ", due is " + want);
        }
    }

    private static String names(Class<?>[] types) {
        StringBuilder all = new StringBuilder();
        for (Class<?> type : types) {
            all.append(all.length() > 0 ? "," : "").append(type.getSimpleName());
        }
        return all.toString();
    }

    private static String written(Method m) {
        String thrown = names(m.getExceptionTypes());
        return m.getReturnType().getSimpleName() + " " + m.getName() + "(" + names(m.getParameterTypes()) + ")"
                + (thrown.isEmpty() ? "" : " throws " + thrown);
    }

    private static void face() throws Exception {
        Class<?> c = StrokeRaster.class;
        due("public and final", c.getModifiers(), Modifier.PUBLIC | Modifier.FINAL);
        Set<String> methods = new TreeSet<>();
        Set<String> publicNames = new HashSet<>();
        for (Method m : c.getDeclaredMethods()) {
            if (Modifier.isPublic(m.getModifiers())) {
                methods.add(written(m));
                publicNames.add(m.getName());
            }
        }
        due("methods", methods, new TreeSet<>(Arrays.asList(FACE)));
        Set<String> fields = new TreeSet<>();
        for (Field f : c.getFields()) {
            fields.add(Modifier.toString(f.getModifiers()) + " " + f.getType() + " " + f.getName());
        }
        due("fields", fields, new TreeSet<>(Arrays.asList("public static final int FULL", "public static final int NONE")));
        Constructor<?>[] constructors = c.getDeclaredConstructors();
        due("constructors", constructors.length, 1);
        due("constructor", constructors[0].getModifiers() + "/" + constructors[0].getParameterCount(), "1/0");
        hidden(c, publicNames);
    }

    private static void hidden(Class<?> c, Set<String> publicNames) {
        for (Method m : c.getDeclaredMethods()) {
            seen(m);
            if (!Modifier.isPublic(m.getModifiers())) {
                due("private name of a public one " + m.getName(), publicNames.contains(m.getName()), false);
            }
            due("parameters of " + m.getName(), m.getParameterCount() <= 7, true);
        }
        for (Field f : c.getDeclaredFields()) {
            seen(f);
        }
        for (Class<?> inside : c.getDeclaredClasses()) {
            due("static " + inside, Modifier.isStatic(inside.getModifiers()), true);
            due("not public " + inside, Modifier.isPublic(inside.getModifiers()), false);
            int own = 0;
            for (Field f : inside.getDeclaredFields()) {
                own += Modifier.isStatic(f.getModifiers()) ? 0 : 1;
                due("final " + f, !Modifier.isStatic(f.getModifiers()) || Modifier.isFinal(f.getModifiers()), true);
            }
            due("fields of " + inside, own <= 20, true);
        }
    }

    private static void seen(Member m) {
        boolean shown = Modifier.isPublic(m.getModifiers()) || Modifier.isPrivate(m.getModifiers());
        due("neither public nor private: " + m.getName(), shown, true);
    }

    private static void text() throws Exception {
        int number = 0;
        for (String line : Files.readAllLines(Path.of("src/main/java/StrokeRaster.java"))) {
            number++;
            String code = line.replaceAll("\"[^\"]*\"", "\"\"").replaceAll("^\\s*(/\\*\\*|\\*|//).*", "");
            for (String never : NEVER) {
                due("line " + number + " has " + never, code.matches(".*(" + never + ").*"), false);
            }
            due("line " + number + " imports", code.startsWith("import ") && !code.equals("import java.util.Arrays;"), false);
        }
    }

    public static void main(String[] args) throws Exception {
        face();
        text();
        System.out.println(wrong == 0 ? "the face is as written" : wrong + " faults");
        if (wrong != 0) {
            System.exit(1);
        }
    }
}
