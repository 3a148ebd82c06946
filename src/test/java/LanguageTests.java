import java.lang.reflect.Field;
import java.lang.reflect.InvocationTargetException;
import java.lang.reflect.Method;
import java.lang.reflect.Modifier;
import java.nio.file.Files;
import java.nio.file.Path;
import java.util.ArrayList;
import java.util.Arrays;
import java.util.HashMap;
import java.util.HashSet;
import java.util.List;
import java.util.Map;
import java.util.Random;
import java.util.Set;
import java.util.TreeMap;
import java.util.TreeSet;
import java.util.regex.Matcher;
import java.util.regex.Pattern;

/**
 * The rules of LANGUAGE.md, read off the program's text, its classes and its runs: each test bears its rule's
 * number and says the words that it holds. What the rules leave but the program does not use (catches, while,
 * lists, rows of two dimensions) is refused here, too: who needs it widens the test. With the rules' path as
 * argument the words are looked up in it.
 */
public final class LanguageTests {
    private static final Path PROGRAM = Path.of("src/main/java/StrokeRaster.java");

    private static final Set<String> LIBRARY = Set.of("Math.min", "Math.max", "Math.abs", "Math.floorDiv", "Math.floorMod",
            "Long.bitCount", "Long.signum", "Arrays.copyOf", "Arrays.fill");
    private static final Set<String> EXCEPTIONS = Set.of("IllegalArgumentException", "IllegalStateException",
            "IndexOutOfBoundsException");
    private static final Set<String> NOT_CALLS = Set.of("if", "for", "switch", "return", "while");

    private static final int LONGEST_METHOD = 60;
    private static final int MOST_CLASSES = 12;
    private static final int MOST_FIELDS = 20;
    private static final int MOST_PARAMETERS = 7;
    private static final int DEEPEST = 8;

    private static int wrong = 0;
    private static int asked = 0;
    private static String place = "";
    private static final TreeMap<String, Integer> SAID = new TreeMap<>();

    /** The program's lines without comments and without what stands inside texts. */
    private static List<String> code = new ArrayList<>();
    private static List<Written> methods = new ArrayList<>();
    private static List<Class<?>> classes = new ArrayList<>();

    /** A method or constructor as it is written: its class, its name and its lines from head to last brace. */
    private record Written(String owner, String name, int line, List<String> body) {
        String key() {
            return owner + "." + name;
        }

        boolean isConstructor() {
            return owner.equals(name);
        }
    }

    private static void says(int rule, String words) {
        place = "rule " + rule + ", \"" + words + "\"";
        SAID.put(words, rule);
    }

    private static void due(String what, Object got, Object want) {
        asked++;
        if (!got.equals(want)) {
            wrong++;
            System.out.println(place + ": " + what + ": " + got + ", due is " + want);
        }
    }

    private static void never(String pattern) {
        Pattern sought = Pattern.compile(pattern);
        for (int i = 0; i < code.size(); i++) {
            Matcher found = sought.matcher(code.get(i));
            due("line " + (i + 1) + " has " + pattern, found.find(), false);
        }
    }

    private static void read() throws Exception {
        String text = Files.readString(PROGRAM);
        text = text.replaceAll("\"[^\"\n]*\"", "\"\"");
        Matcher comment = Pattern.compile("/\\*.*?\\*/|//[^\n]*", Pattern.DOTALL).matcher(text);
        text = comment.replaceAll(found -> found.group().replaceAll("[^\n]", ""));
        code = Arrays.asList(text.split("\n", -1));
        classes.add(StrokeRaster.class);
        classes.addAll(Arrays.asList(StrokeRaster.class.getDeclaredClasses()));
        readMethods();
    }

    /** A method begins where its head is written, and ends with the brace below it in the same column. */
    private static void readMethods() {
        String owner = "StrokeRaster";
        String indent = "";
        Written open = null;
        for (int i = 0; i < code.size(); i++) {
            String line = code.get(i);
            Matcher inside = Pattern.compile("^    \\w.*\\bclass (\\w+).*\\{$").matcher(line);
            Matcher head = Pattern.compile("^    (?:    )?\\w[^=;]*?\\b(\\w+)\\([^=;]*\\{$").matcher(line);
            if (inside.find()) {
                owner = inside.group(1);
            } else if (open == null && head.find()) {
                open = new Written(owner, head.group(1), i + 1, new ArrayList<>());
                indent = line.replaceAll("\\S.*", "");
            }
            if (open != null) {
                open.body().add(line);
                if (line.equals(indent + "}")) {
                    methods.add(open);
                    open = null;
                }
            }
        }
    }

    static void rule00TheTextIsReadWhole() {
        says(0, "The program is one file, src/main/java/StrokeRaster.java, without a package line, written in Java 17");
        never("^\\s*package\\b");
        Set<String> read = new TreeSet<>();
        for (Written m : methods) {
            if (!m.isConstructor()) {
                read.add(m.key());
            }
        }
        Set<String> compiled = new TreeSet<>();
        for (Class<?> c : classes) {
            for (Method m : c.getDeclaredMethods()) {
                compiled.add(c.getSimpleName() + "." + m.getName());
            }
        }
        due("the methods that these tests read", read, compiled);
    }

    static void rule01TheFace() {
        says(1, "no other public, protected or package-visible member, but for the classes inside it, which are private or package-visible and static");
        Class<?> c = StrokeRaster.class;
        due("public and final", c.getModifiers(), Modifier.PUBLIC | Modifier.FINAL);
        for (Field f : c.getDeclaredFields()) {
            boolean constant = f.getName().equals("NONE") || f.getName().equals("FULL");
            due("private: " + f, Modifier.isPrivate(f.getModifiers()), !constant);
        }
        for (Method m : c.getDeclaredMethods()) {
            due("public or private: " + m, Modifier.isPublic(m.getModifiers()) || Modifier.isPrivate(m.getModifiers()), true);
        }
        for (Class<?> inside : c.getDeclaredClasses()) {
            due("static: " + inside, Modifier.isStatic(inside.getModifiers()), true);
            due("not shown: " + inside, inside.getModifiers() & (Modifier.PUBLIC | Modifier.PROTECTED), 0);
        }
    }

    static void rule01NoPublicNameTwice() {
        says(1, "No private method bears the name of a public one.");
        Set<String> shown = new HashSet<>();
        for (Method m : StrokeRaster.class.getMethods()) {
            shown.add(m.getName());
        }
        for (Class<?> c : classes) {
            for (Method m : c.getDeclaredMethods()) {
                due("a public one's name: " + m, !Modifier.isPublic(m.getModifiers()) && shown.contains(m.getName()), false);
            }
        }
    }

    static void rule02Classes() {
        says(2, "no local class that captures a variable, no lambda, no method reference");
        never("->");
        never("::");
        never("^ {8,}.*\\bclass\\b");
        never("\\bnew \\w+\\([^)]*\\) *\\{");
        for (Class<?> c : classes) {
            due("classes in " + c, c == StrokeRaster.class || c.getDeclaredClasses().length == 0, true);
        }
    }

    static void rule03Types() {
        says(3, "int, long, short, byte, char, boolean, double, float; arrays of these and of your own classes");
        Set<String> own = new HashSet<>(Set.of("Math", "Long", "Arrays"));
        own.addAll(EXCEPTIONS);
        for (Class<?> c : classes) {
            own.add(c.getSimpleName());
        }
        for (int i = 0; i < code.size(); i++) {
            Matcher name = Pattern.compile("\\b[A-Z][A-Za-z0-9]*[a-z][A-Za-z0-9]*\\b").matcher(code.get(i));
            while (name.find()) {
                due("line " + (i + 1) + " names " + name.group(), own.contains(name.group()), true);
            }
        }
        never("\\[\\]\\s*\\[\\]");
        never("\\bvar\\b");
    }

    static void rule03NoFloats() {
        says(3, "On doubles and floats only + - * /, comparisons and casts, none of which may answer NaN");
        never("\\b(double|float)\\b");
        never("\\b\\d+\\.\\d|\\b\\d+[dDfF]\\b");
    }

    static void rule03Characters() throws Exception {
        says(3, "Texts hold characters 0 to 255 alone.");
        due("all of the text", Files.readString(PROGRAM).chars().allMatch(ch -> ch < 256), true);
    }

    static void rule04Library() {
        says(4, "The library: only what stands here.");
        for (int i = 0; i < code.size(); i++) {
            boolean other = code.get(i).startsWith("import ") && !code.get(i).equals("import java.util.Arrays;");
            due("line " + (i + 1) + " imports", other, false);
            Matcher call = Pattern.compile("\\b[A-Z][A-Za-z]*\\.\\w+(?=\\()").matcher(code.get(i));
            while (call.find()) {
                due("line " + (i + 1) + " calls " + call.group(), LIBRARY.contains(call.group()), true);
            }
        }
        never("\\bjava\\.(?!util\\.Arrays;)");
        never("Exact\\(");
        never("\\.(clone|equals|hashCode|toString|getClass|wait|notify|getMessage)\\(");
    }

    static void rule05StaticFields() {
        says(5, "Static fields are final: constants of int, long, boolean, char or String");
        for (Class<?> c : classes) {
            for (Field f : c.getDeclaredFields()) {
                if (Modifier.isStatic(f.getModifiers())) {
                    due("final: " + f, Modifier.isFinal(f.getModifiers()), true);
                    due("a constant: " + f, f.getType() == int.class || f.getType() == long.class, true);
                }
            }
        }
        never("\\bstatic\\s*(\\{|$)");
    }

    static void rule06Exceptions() {
        says(6, "throw new E() or throw new E(\"a written text\")");
        Pattern due = Pattern.compile("^ {12}throw new (\\w+)\\(\"\"\\);$");
        for (Written m : methods) {
            for (String line : m.body()) {
                if (line.matches(".*\\bthrow\\b.*")) {
                    Matcher plain = due.matcher(line);
                    due(m.key() + line, plain.matches() && EXCEPTIONS.contains(plain.group(1)), true);
                    due("thrown in " + m.key(), isOfTheFace(m), true);
                }
            }
        }
        never("\\b(try|catch|finally|synchronized|assert|instanceof|null)\\b");
    }

    private static boolean isOfTheFace(Written m) {
        return m.owner().equals("StrokeRaster") && m.body().get(0).startsWith("    public ") && !m.isConstructor();
    }

    private static final int[] ODD = {Integer.MIN_VALUE, Integer.MIN_VALUE + 1, -65536, -16385, -16384, -8193, -8192, -65, -1, 0,
        1, 2, 3, 7, 8, 9, 15, 16, 31, 32, 63, 64, 65, 127, 511, 640, 1023, 1024, 4096, 4097, 8191, 8192, 16383, 16384, 65535,
        65536, Integer.MAX_VALUE - 1, Integer.MAX_VALUE};

    /** Any arguments in any state: what is thrown is thrown by the called method itself, and is one of its own. */
    static void rule07NoCallThrowsByItself() throws Exception {
        says(7, "No call may ever throw by itself (only by a throw statement) or fail to end, for any arguments in any state");
        List<Method> face = face();
        for (int run = 0; run < 60; run++) {
            Random random = new Random(7000 + run);
            StrokeRaster s = new StrokeRaster();
            for (int call = 0; call < 500; call++) {
                Method m = face.get(random.nextInt(face.size()));
                Object[] arguments = arguments(m, random);
                try {
                    m.invoke(s, arguments);
                } catch (InvocationTargetException e) {
                    thrown(m.getName() + Arrays.toString(arguments), m, e.getCause());
                }
            }
        }
    }

    private static void thrown(String call, Method m, Throwable what) {
        due(call + " threw", Arrays.asList(m.getExceptionTypes()).contains(what.getClass()), true);
        due(call + " threw in", what.getStackTrace()[0].getClassName() + "." + what.getStackTrace()[0].getMethodName(),
                "StrokeRaster." + m.getName());
    }

    private static List<Method> face() {
        List<Method> found = new ArrayList<>();
        for (Method m : StrokeRaster.class.getDeclaredMethods()) {
            if (Modifier.isPublic(m.getModifiers())) {
                found.add(m);
            }
        }
        found.sort((a, b) -> a.getName().compareTo(b.getName()));
        return found;
    }

    /** Mostly what may be right, so that paths grow, and odd numbers now and then. */
    private static Object[] arguments(Method m, Random random) {
        Object[] made = new Object[m.getParameterCount()];
        boolean odd = random.nextInt(4) == 0;
        for (int i = 0; i < made.length; i++) {
            int most = m.getName().equals("pen") && (i == 1 || i == 2) ? 3 : made.length == 1 ? 300 : 4096;
            made[i] = odd ? ODD[random.nextInt(ODD.length)] : random.nextInt(most);
        }
        return made;
    }

    static void rule08And11CallDepth() throws Exception {
        says(11, "calls that are no recursion go at most eight deep");
        Map<String, Written> known = new HashMap<>();
        for (Written m : methods) {
            known.put(m.key(), m);
        }
        for (Written m : methods) {
            due("calls below " + m.key(), depth(m, known, new ArrayList<>()) <= DEEPEST, true);
        }
    }

    /** How many calls stand open at once at most, the library's own counted; more than can be, if a call comes back. */
    private static int depth(Written m, Map<String, Written> known, List<String> open) throws Exception {
        if (open.contains(m.key())) {
            due("recursion", open + " " + m.key(), "none");
            return DEEPEST + 1;
        }
        open.add(m.key());
        int deepest = 0;
        for (int i = 1; i < m.body().size(); i++) {
            Matcher call = Pattern.compile("(?:\\b(\\w+)\\.)?\\b(\\w+)\\(").matcher(m.body().get(i));
            while (call.find()) {
                if (!NOT_CALLS.contains(call.group(2))) {
                    String target = target(m, call.group(1), call.group(2), known);
                    boolean outside = LIBRARY.contains(target) || EXCEPTIONS.contains(target);
                    due(m.key() + " calls " + target, outside || known.containsKey(target) || isOwnClass(target), true);
                    deepest = Math.max(deepest, known.containsKey(target) ? depth(known.get(target), known, open) : 1);
                }
            }
        }
        open.remove(open.size() - 1);
        return deepest + 1;
    }

    private static boolean isOwnClass(String name) {
        return classes.stream().anyMatch(c -> c.getSimpleName().equals(name));
    }

    private static String target(Written from, String receiver, String name, Map<String, Written> known) throws Exception {
        if (receiver == null) {
            if (EXCEPTIONS.contains(name)) {
                return name;
            }
            if (isOwnClass(name)) {
                return known.containsKey(name + "." + name) ? name + "." + name : name;
            }
            return known.containsKey(from.owner() + "." + name) ? from.owner() + "." + name : "StrokeRaster." + name;
        }
        if (Character.isUpperCase(receiver.charAt(0))) {
            return receiver + "." + name;
        }
        for (Class<?> c : classes) {
            if (c.getSimpleName().equals(from.owner())) {
                return c.getDeclaredField(receiver).getType().getSimpleName() + "." + name;
            }
        }
        return receiver + "." + name;
    }

    /** The whole head of a loop stands in one line; its end is a comparison that the third part brings nearer. */
    static void rule09Loops() {
        says(9, "Every loop has an end that can be seen from its own lines");
        never("\\b(while|do)\\b");
        Pattern bounded = Pattern.compile("\\bfor \\((int|long) (\\w+) = [^;]+; [^;]*\\b\\2 (<|<=|>|>=) [^;]+; \\2(\\+\\+|--| >>= 1)\\) \\{$");
        for (int i = 0; i < code.size(); i++) {
            if (code.get(i).matches(".*\\bfor\\b.*")) {
                due("line " + (i + 1) + code.get(i), bounded.matcher(code.get(i)).find(), true);
            }
        }
    }

    static void rule10TextsAreNotJoined() {
        says(10, "joining texts by StringBuilder (not by +)");
        never("\"\"\\s*\\+|\\+\\s*\"\"");
    }

    static void rule11Measures() {
        says(11, "A method takes at most seven parameters. Methods stay short (some sixty lines)");
        for (Written m : methods) {
            due("lines of " + m.key(), m.body().size() <= LONGEST_METHOD, true);
        }
        due("classes", classes.size() <= MOST_CLASSES, true);
        for (Class<?> c : classes) {
            int own = 0;
            for (Field f : c.getDeclaredFields()) {
                own += Modifier.isStatic(f.getModifiers()) ? 0 : 1;
            }
            due("fields of " + c, own <= MOST_FIELDS, true);
            for (Method m : c.getDeclaredMethods()) {
                due("parameters of " + m, m.getParameterCount() <= MOST_PARAMETERS, true);
            }
        }
    }

    /** Beside fields, the outer constructor and exceptions nothing is made; rows that grow are made by copyOf alone. */
    static void rule12WhatIsMade() {
        says(12, "An object may be made by any method, and none in a loop without a bound.");
        for (Written m : methods) {
            for (String line : m.body()) {
                boolean makes = line.matches(".*\\bnew\\b.*") && !line.matches(" *throw new .*");
                due(m.key() + line, makes && !m.key().equals("StrokeRaster.StrokeRaster"), false);
            }
            boolean copies = m.body().stream().anyMatch(line -> line.contains("Arrays.copyOf"));
            due("copies in " + m.key(), copies, m.key().equals("Path.put") || m.key().equals("Pieces.grow"));
        }
    }

    static void rule12Constructors() {
        says(12, "A constructor calls no method that another class could override and hands out nothing of the object that it makes.");
        for (Written m : methods) {
            for (int i = 1; m.isConstructor() && i < m.body().size(); i++) {
                String line = m.body().get(i).trim();
                boolean plain = line.matches("(this\\.)?\\w+ = (\\w+|new \\w+\\([\\w, ]*\\)|new \\w+\\[\\w+\\]);|\\}");
                due("in a constructor: " + line, plain && !line.matches(".*[(, ]this[), ].*"), true);
            }
        }
    }

    static void rule13TheSameAnswers() throws Exception {
        says(13, "the same calls always give the same answers");
        for (int run = 0; run < 20; run++) {
            due("run " + run, answers(run), answers(run));
        }
    }

    private static String answers(int run) throws Exception {
        List<Method> face = face();
        Random random = new Random(1300 + run);
        StrokeRaster s = new StrokeRaster();
        StringBuilder all = new StringBuilder();
        for (int call = 0; call < 200; call++) {
            Method m = face.get(random.nextInt(face.size()));
            try {
                all.append(m.invoke(s, arguments(m, random))).append(' ');
            } catch (InvocationTargetException e) {
                all.append(e.getCause().getClass().getSimpleName()).append(' ');
            }
        }
        return all.toString();
    }

    private static List<Method> tests() {
        List<Method> found = new ArrayList<>();
        for (Method m : LanguageTests.class.getDeclaredMethods()) {
            if (m.getName().matches("rule\\d\\d.*") && m.getParameterCount() == 0) {
                found.add(m);
            }
        }
        found.sort((a, b) -> a.getName().compareTo(b.getName()));
        return found;
    }

    private static void lookUp(Path rules) throws Exception {
        place = "the rules";
        String text = Files.readString(rules).replaceAll("\\s+", " ");
        for (String words : SAID.keySet()) {
            due(words, text.contains(words), true);
        }
    }

    public static void main(String[] args) throws Exception {
        read();
        for (Method test : tests()) {
            test.invoke(null);
        }
        if (args.length > 0) {
            lookUp(Path.of(args[0]));
        }
        System.out.println(SAID.size() + " rules' words, " + asked + " asked, " + wrong + " wrong");
        if (wrong != 0) {
            System.exit(1);
        }
    }
}
