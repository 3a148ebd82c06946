import java.lang.reflect.InvocationTargetException;
import java.lang.reflect.Method;
import java.nio.file.Files;
import java.nio.file.Path;
import java.util.regex.Matcher;
import java.util.regex.Pattern;

/** Makes the calls that README.md shows, one by one, and looks at the answers that stand behind them. */
public final class ReadmeTests {
    private static final Pattern CALL = Pattern.compile("s\\.(\\w+)\\(([^)]*)\\); +// (.*)");
    private static int wrong = 0;

    private static void due(String what, Object got, Object want) {
        if (!got.equals(want)) {
            wrong++;
            System.out.println(what + ": " + got + ", due is " + want);
        }
    }

    private static Method method(String name) {
        for (Method m : StrokeRaster.class.getDeclaredMethods()) {
            if (m.getName().equals(name)) {
                return m;
            }
        }
        throw new IllegalStateException("README.md calls " + name);
    }

    private static Object[] numbers(String written) {
        String[] parts = written.isEmpty() ? new String[0] : written.split(", ");
        Object[] made = new Object[parts.length];
        for (int i = 0; i < parts.length; i++) {
            made[i] = Integer.parseInt(parts[i]);
        }
        return made;
    }

    private static String answer(StrokeRaster s, Method m, Object[] arguments) throws IllegalAccessException {
        try {
            return String.valueOf(m.invoke(s, arguments));
        } catch (InvocationTargetException e) {
            return e.getCause().getClass().getSimpleName();
        }
    }

    private static int example(String text) throws IllegalAccessException {
        StrokeRaster s = new StrokeRaster();
        int calls = 0;
        for (String line : text.split("\n")) {
            Matcher call = CALL.matcher(line);
            if (call.matches()) {
                calls++;
                Method m = method(call.group(1));
                String got = answer(s, m, numbers(call.group(2)));
                if (m.getReturnType() == void.class) {
                    due(line, got, "null");
                } else {
                    due(line, got, call.group(3).split(" ")[0]);
                }
            } else {
                due(line, line.isEmpty() || line.equals("StrokeRaster s = new StrokeRaster();"), true);
            }
        }
        return calls;
    }

    /** Every call of the face has its row in the table, and every test its line. */
    private static void named(String readme) throws Exception {
        for (Method m : StrokeRaster.class.getMethods()) {
            if (m.getDeclaringClass() == StrokeRaster.class) {
                due("README.md names " + m.getName(), readme.contains("| `" + m.getName() + "("), true);
            }
        }
        try (var files = Files.list(Path.of("src/test/java"))) {
            for (Path file : files.toList()) {
                String name = file.getFileName().toString().replace(".java", "");
                due("README.md names " + name, readme.contains("- `" + name + "`: "), true);
            }
        }
    }

    public static void main(String[] args) throws Exception {
        String readme = Files.readString(Path.of("README.md"));
        Matcher block = Pattern.compile("```java\n(.*?)```", Pattern.DOTALL).matcher(readme);
        int calls = 0;
        while (block.find()) {
            calls += example(block.group(1));
        }
        due("there are calls", calls > 0, true);
        named(readme);
        System.out.println(calls + " calls of README.md, " + wrong + " wrong");
        if (wrong != 0) {
            System.exit(1);
        }
    }
}
