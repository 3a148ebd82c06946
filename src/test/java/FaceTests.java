import java.lang.reflect.Constructor;
import java.lang.reflect.Field;
import java.lang.reflect.Method;
import java.lang.reflect.Modifier;
import java.util.Arrays;
import java.util.Set;
import java.util.TreeSet;

/** The public face as the document writes it: nothing is missing, nothing more is shown. */
public final class FaceTests {
    private static int wrong = 0;

    private static final String[] FACE = {
        "void control(int,int,int,int) throws IllegalArgumentException",
        "boolean has(int,int) throws IllegalArgumentException",
        "int clear()",
        "int close() throws IllegalStateException",
        "int count(int)",
        "int curve(int,int) throws IllegalArgumentException,IllegalStateException",
        "int dash(int) throws IllegalArgumentException,IllegalStateException",
        "int line(int,int) throws IllegalArgumentException,IllegalStateException",
        "int move(int,int) throws IllegalArgumentException,IllegalStateException",
        "int plain(int) throws IllegalArgumentException",
        "int share(int,int) throws IndexOutOfBoundsException",
        "long row(int) throws IndexOutOfBoundsException",
        "void pen(int,int,int,int) throws IllegalArgumentException",
    };

    private static void due(String what, Object got, Object want) {
        if (!got.equals(want)) {
            wrong++;
            System.out.println(what + ": " + got + ", due is " + want);
        }
    }

    private static String names(Class<?>[] types) {
        StringBuilder all = new StringBuilder();
        for (Class<?> type : types) {
            all.append(all.length() > 0 ? "," : "").append(type.getSimpleName());
        }
        return all.toString();
    }

    private static String written(Method m) {
        String thrown = names(m.getExceptionTypes());
        return m.getReturnType().getSimpleName() + " " + m.getName() + "(" + names(m.getParameterTypes()) + ")"
                + (thrown.isEmpty() ? "" : " throws " + thrown);
    }

    private static Set<String> sorted(String... texts) {
        return new TreeSet<>(Arrays.asList(texts));
    }

    private static void methods() {
        Set<String> shown = new TreeSet<>();
        for (Method m : StrokeRaster.class.getDeclaredMethods()) {
            if (!Modifier.isPrivate(m.getModifiers())) {
                due("an object's own: " + m, m.getModifiers(), Modifier.PUBLIC);
                shown.add(written(m));
            }
        }
        due("methods", shown, sorted(FACE));
    }

    private static void constants() {
        Set<String> shown = new TreeSet<>();
        for (Field f : StrokeRaster.class.getDeclaredFields()) {
            if (!Modifier.isPrivate(f.getModifiers())) {
                shown.add(Modifier.toString(f.getModifiers()) + " " + f.getType() + " " + f.getName());
            }
        }
        due("fields", shown, sorted("public static final int FULL", "public static final int NONE"));
        due("NONE", StrokeRaster.NONE, -1);
        due("FULL", StrokeRaster.FULL, -2);
    }

    private static void constructor() {
        Constructor<?>[] all = StrokeRaster.class.getDeclaredConstructors();
        due("constructors", all.length, 1);
        due("shown", all[0].getModifiers(), Modifier.PUBLIC);
        due("parameters", all[0].getParameterCount(), 0);
        due("exceptions", all[0].getExceptionTypes().length, 0);
    }

    public static void main(String[] args) {
        due("public and final", StrokeRaster.class.getModifiers(), Modifier.PUBLIC | Modifier.FINAL);
        due("extends", StrokeRaster.class.getSuperclass(), Object.class);
        due("implements", StrokeRaster.class.getInterfaces().length, 0);
        due("classes shown", StrokeRaster.class.getClasses().length, 0);
        methods();
        constants();
        constructor();
        System.out.println(wrong == 0 ? "the face is as written" : wrong + " faults");
        if (wrong != 0) {
            System.exit(1);
        }
    }
}
