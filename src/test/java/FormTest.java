import java.io.IOException;
import java.lang.reflect.Field;
import java.lang.reflect.InvocationTargetException;
import java.lang.reflect.Method;
import java.lang.reflect.Modifier;
import java.nio.file.Files;
import java.nio.file.Path;
import java.util.ArrayList;
import java.util.Arrays;
import java.util.Comparator;
import java.util.List;
import java.util.Map;
import java.util.Set;
import java.util.TreeMap;
import java.util.TreeSet;
import java.util.regex.Matcher;
import java.util.regex.Pattern;

/** The rules of LANGUAGE.md, each by a method that bears its number: as seen from outside, or in the text. */
public final class FormTest {
    private static final Path SOURCE = Path.of("src/main/java/FrozenBits.java");
    private static final int RULES = 13;
    private static final int MOST_LINES = 60;
    private static final int MOST_CALLS_DEEP = 8;
    private static final int MOST_PARAMETERS = 7;
    private static final int MOST_CLASSES = 12;
    private static final int MOST_FIELDS = 20;
    private static final int CALLS_OF_AN_OBJECT = 512;

    private static final String[] FACE = {
        "int deep(int)", "int loss(int,int)", "long split(int,int)", "int rank(int,int)", "int freeze(int)",
        "int best(int)", "int coded(int)", "int word(int)", "int light(int)", "int put(int,int)",
        "int hear(int,int)", "int spoil(int,int)", "int measure(int,int)", "int read(int)", "int most(int)",
        "int kept(int,int)", "int chosen(int)", "int check(int,int)", "int open(int,int)", "int fragile(int)",
        "int image(int)", "int restore(int)", "int count(int)"};
    private static final Set<String> CONSTANTS = Set.of("UNKNOWN", "OUTSIDE", "STATE", "NONE", "GONE");

    private static String source = "";
    /** The source without its comments. */
    private static String code = "";
    private static String rule = "";
    private static int asked = 0;
    private static int wrong = 0;

    private static void must(boolean holds, String what) {
        asked++;
        if (!holds) {
            wrong++;
            System.out.println(rule + ": not so: " + what);
        }
    }

    private static void mustNotStand(String... words) {
        for (String word : words) {
            must(!Pattern.compile("\\b" + word + "\\b").matcher(code).find(), "no " + word);
        }
    }

    private static List<Class<?>> classes() {
        List<Class<?>> all = new ArrayList<>();
        all.add(FrozenBits.class);
        all.addAll(Arrays.asList(FrozenBits.class.getDeclaredClasses()));
        return all;
    }

    private static boolean isOpen(Method method) {
        return Modifier.isPublic(method.getModifiers());
    }

    private static String signature(Method method) {
        List<String> types = new ArrayList<>();
        for (Class<?> type : method.getParameterTypes()) {
            types.add(type.getName());
        }
        return method.getReturnType().getName() + " " + method.getName() + "(" + String.join(",", types) + ")";
    }

    // ---- the text of methods, and what they call

    /** Each method's name with its text, braces and all; no two methods have the same name. */
    private static Map<String, String> bodies() {
        Map<String, String> bodies = new TreeMap<>();
        Matcher head = Pattern.compile("(?m)^ {4,8}(?:public |private |static )*+\\w+(?:\\[\\])? (\\w+)\\([^)]*\\) \\{")
            .matcher(code);
        while (head.find()) {
            String was = bodies.put(head.group(1), code.substring(head.start(), endOfBraces(head.end())));
            must(was == null, "one method alone is called " + head.group(1));
        }
        for (Class<?> c : classes()) {
            for (Method method : c.getDeclaredMethods()) {
                must(bodies.containsKey(method.getName()), method + " is found in the text");
            }
        }
        return bodies;
    }

    private static int endOfBraces(int from) {
        int open = 1;
        int at = from;
        while (open > 0) {
            open += code.charAt(at) == '{' ? 1 : code.charAt(at) == '}' ? -1 : 0;
            at++;
        }
        return at;
    }

    private static Set<String> calledBy(String name, Map<String, String> bodies) {
        String body = bodies.get(name);
        Matcher call = Pattern.compile("\\b(\\w+)\\(").matcher(body.substring(body.indexOf('{')));
        Set<String> called = new TreeSet<>();
        while (call.find()) {
            if (bodies.containsKey(call.group(1))) {
                called.add(call.group(1));
            }
        }
        return called;
    }

    /** How many calls stand open at most, this one too; more than there are methods, if it comes back to itself. */
    private static int callsDeep(String name, Map<String, String> bodies, int left) {
        int deepest = 0;
        for (String called : left == 0 ? Set.<String>of() : calledBy(name, bodies)) {
            deepest = Math.max(deepest, callsDeep(called, bodies, left - 1));
        }
        return 1 + deepest;
    }

    // ---- the rules

    static void rule01_theFaceIsThatOfTheDocument() {
        Class<FrozenBits> c = FrozenBits.class;
        must(Modifier.isPublic(c.getModifiers()) && Modifier.isFinal(c.getModifiers()), "public and final");
        must(c.getSuperclass() == Object.class && c.getInterfaces().length == 0, "nothing above it");
        must(c.getPackageName().isEmpty(), "no package");
        must(c.getDeclaredConstructors().length == 1 && c.getConstructors().length == 1, "one public constructor");
        Set<String> seen = new TreeSet<>();
        for (Method method : c.getDeclaredMethods()) {
            if (isOpen(method)) {
                seen.add(signature(method));
                must(!Modifier.isStatic(method.getModifiers()), method + " is of an object");
            } else {
                must(Modifier.isPrivate(method.getModifiers()), method + " is private");
            }
        }
        must(seen.equals(new TreeSet<>(List.of(FACE))), "the methods are those of the document: " + seen);
    }

    static void rule01_theConstantsAreThoseOfTheDocument() {
        for (Class<?> c : classes()) {
            Set<String> open = new TreeSet<>();
            for (Field field : c.getDeclaredFields()) {
                if (Modifier.isPublic(field.getModifiers())) {
                    open.add(field.getName());
                    must(field.getType() == int.class && Modifier.isStatic(field.getModifiers()), field + " is one");
                } else {
                    must(Modifier.isPrivate(field.getModifiers()), field + " is private");
                }
            }
            must(open.equals(c == FrozenBits.class ? CONSTANTS : Set.of()), c + " has just these: " + open);
        }
    }

    static void rule01_noOtherMethodBearsAPublicName() {
        Set<String> names = new TreeSet<>();
        for (Method method : FrozenBits.class.getDeclaredMethods()) {
            if (isOpen(method)) {
                names.add(method.getName());
            }
        }
        for (Class<?> c : classes()) {
            for (Method method : c.getDeclaredMethods()) {
                must(isOpen(method) || !names.contains(method.getName()), method + " bears a name of its own");
            }
        }
    }

    static void rule02_classesInsideAreStaticAndHaveNames() {
        for (Class<?> inside : FrozenBits.class.getDeclaredClasses()) {
            must(Modifier.isStatic(inside.getModifiers()), inside + " is static");
            must(!Modifier.isPublic(inside.getModifiers()), inside + " is not public");
            must(inside.getDeclaredClasses().length == 0, inside + " has none inside it");
        }
        must(!Pattern.compile("new \\w+\\([^;]*\\)\\s*\\{").matcher(code).find(), "no class without a name");
        must(!code.contains("->") && !code.contains("::"), "no lambda, no method reference");
    }

    static void rule03_onlySomeTypes() {
        Set<String> types = new TreeSet<>(List.of("int", "long", "boolean", "[I"));
        for (Class<?> c : classes()) {
            types.add(c.getName());
        }
        for (Class<?> c : classes()) {
            for (Field field : c.getDeclaredFields()) {
                must(types.contains(field.getType().getName()), field + " is of such a type");
            }
            for (Method method : c.getDeclaredMethods()) {
                for (Class<?> type : method.getParameterTypes()) {
                    must(types.contains(type.getName()), method + " takes such types");
                }
                String answer = method.getReturnType().getName();
                must(answer.equals("void") || types.contains(answer), method + " answers such a type");
            }
        }
        mustNotStand("float", "double", "var", "Object", "String", "StringBuilder");
        must(!code.contains("][") && !code.contains("\""), "no rows of rows, no texts");
    }

    static void rule04_onlySomeOfTheLibrary() {
        mustNotStand("import", "package", "java");
        must(!code.contains("@"), "no annotation");
        Set<String> allowed = Set.of("System.arraycopy", "Integer.bitCount", "Math.min", "Math.max", "Math.abs");
        Matcher library = Pattern.compile("\\b([A-Z]\\w*[a-z]\\w*)\\.(\\w+)").matcher(code);
        while (library.find()) {
            must(allowed.contains(library.group()), library.group() + " is among what is used of the library");
        }
        must(source.chars().allMatch(sign -> sign < 128), "plain signs");
    }

    static void rule05_staticFieldsAreConstants() {
        for (Class<?> c : classes()) {
            for (Field field : c.getDeclaredFields()) {
                if (Modifier.isStatic(field.getModifiers())) {
                    must(Modifier.isFinal(field.getModifiers()), field + " is final");
                    must(field.getType() == int.class || field.getType() == int[].class, field + " is of numbers");
                }
            }
        }
        must(!Pattern.compile("static\\s*\\{").matcher(code).find(), "no static block");
        must(!Pattern.compile("FIRST_OF_PAIRS\\[\\w+\\]\\s*\\W?=[^=]").matcher(code).find(), "rows stay as written");
    }

    static void rule06_noThrowNoCatch() {
        mustNotStand("throw", "throws", "try", "catch", "finally", "synchronized", "assert", "instanceof", "equals",
            "hashCode", "toString", "volatile", "native", "protected");
    }

    static void rule07_noCallThrows() throws IllegalAccessException {
        int[] far = {Integer.MIN_VALUE, -65536, -33, -2, -1, 0, 1, 3, 8, 15, 16, 31, 32, 99, 255, 65535, 65536,
            Integer.MAX_VALUE};
        for (int deep = 1; deep <= 4; deep++) {
            for (Method method : FrozenBits.class.getDeclaredMethods()) {
                if (isOpen(method)) {
                    askFar(method, deep, far);
                }
            }
        }
    }

    private static void askFar(Method method, int deep, int[] far) throws IllegalAccessException {
        FrozenBits x = new FrozenBits();
        x.most(8);
        x.deep(deep);
        x.hear((1 << (1 << deep)) - 1, 99);
        int calls = 3;
        for (int a : far) {
            for (int b : method.getParameterCount() == 1 ? new int[] {0} : far) {
                must(ends(method, x, a, b), method.getName() + "(" + a + ", " + b + ") answers at DEEP " + deep);
                calls++;
            }
        }
        must(calls <= CALLS_OF_AN_OBJECT, "no more calls than are promised");
    }

    private static boolean ends(Method method, FrozenBits x, int a, int b) throws IllegalAccessException {
        try {
            Object answer = method.getParameterCount() == 1 ? method.invoke(x, a) : method.invoke(x, a, b);
            return answer instanceof Number;
        } catch (InvocationTargetException thrown) {
            return false;
        }
    }

    static void rule08_noRecursion() {
        Map<String, String> bodies = bodies();
        for (String name : bodies.keySet()) {
            must(callsDeep(name, bodies, MOST_CALLS_DEEP) <= MOST_CALLS_DEEP, name + " does not come back to itself");
        }
    }

    static void rule09_everyLoopHasAnEnd() {
        must(!Pattern.compile("while \\(true\\)|for \\(;|;\\s*;").matcher(code).find(), "no loop without an end");
        Matcher loop = Pattern.compile("\\b(for|while|do)\\b([^{]*)\\{").matcher(code);
        Pattern bounded = Pattern.compile(" \\((int \\w+ = [^;]+; \\w+ [<>]=? [^;]+; \\w+(\\+\\+|--| >>= 1)"
            + "|at > 0 && [^;]+)\\) ");
        while (loop.find()) {
            must(bounded.matcher(loop.group(2)).matches(), loop.group(1) + loop.group(2) + "counts against a bound");
        }
    }

    static void rule10_numbersAlone() {
        mustNotStand("goto", "strictfp", "transient", "abstract", "enum", "record");
        must(!code.contains("\"") && !code.contains("'"), "no texts are joined");
    }

    static void rule11_fewParameters() {
        for (Class<?> c : classes()) {
            for (Method method : c.getDeclaredMethods()) {
                must(method.getParameterCount() <= MOST_PARAMETERS, method + " takes at most seven");
            }
        }
    }

    static void rule11_shortMethods() {
        for (Map.Entry<String, String> body : bodies().entrySet()) {
            must(body.getValue().split("\n").length <= MOST_LINES, body.getKey() + " is short");
        }
        for (String line : source.split("\n")) {
            must(line.length() <= 120, "a line is at most 120 long: " + line);
        }
    }

    static void rule11_callsGoAtMostEightDeep() {
        Map<String, String> bodies = bodies();
        for (String face : FACE) {
            String name = face.substring(face.indexOf(' ') + 1, face.indexOf('('));
            must(callsDeep(name, bodies, MOST_CALLS_DEEP) <= MOST_CALLS_DEEP, name + " goes at most eight deep");
        }
    }

    static void rule11_fewClassesAndFields() {
        must(classes().size() <= MOST_CLASSES, "at most twelve classes");
        for (Class<?> c : classes()) {
            long held = Arrays.stream(c.getDeclaredFields()).filter(f -> !Modifier.isStatic(f.getModifiers())).count();
            must(held <= MOST_FIELDS, c + " has at most twenty fields");
        }
    }

    /** All calls of a run live in one room: so nothing is made but with the object itself. */
    static void rule12_nothingIsMadeByACall() {
        for (Map.Entry<String, String> body : bodies().entrySet()) {
            must(!Pattern.compile("\\bnew\\b").matcher(body.getValue()).find(), body.getKey() + " makes nothing");
            must(!body.getValue().contains("clone("), body.getKey() + " makes no copy");
        }
    }

    static void rule12_theConstructorCallsNoMethod() {
        int begin = code.indexOf("public FrozenBits()");
        String constructor = code.substring(code.indexOf('{', begin), code.indexOf('}', begin));
        must(!Pattern.compile("(?<!new )\\b\\w+\\(").matcher(constructor).find(), "it only makes its rooms");
        mustNotStand("this");
    }

    static void rule13_noClockNoChance() {
        mustNotStand("Thread", "Random", "random", "currentTimeMillis", "nanoTime", "getenv", "getProperty", "exit");
    }

    // ---- all of them

    private static void run(Method method) throws IllegalAccessException {
        rule = method.getName();
        asked = 0;
        try {
            method.invoke(null);
        } catch (InvocationTargetException thrown) {
            must(false, "it threw " + thrown.getCause());
        }
        must(asked > 0, "it asks for something");
    }

    private static int runAll(String prefix) throws IllegalAccessException {
        Method[] methods = FormTest.class.getDeclaredMethods();
        Arrays.sort(methods, Comparator.comparing(Method::getName));
        int found = 0;
        for (Method method : methods) {
            if (method.getName().startsWith(prefix)) {
                found++;
                run(method);
            }
        }
        must(found > 0, "there is a test of " + prefix);
        return found;
    }

    public static void main(String[] args) throws IOException, IllegalAccessException {
        source = Files.readString(SOURCE);
        code = source.replaceAll("(?s)/\\*.*?\\*/", "").replaceAll("//[^\n]*", "");
        int tests = 0;
        for (int number = 1; number <= RULES; number++) {
            tests += runAll(String.format("rule%02d_", number));
        }
        System.out.println(tests + " tests: " + (wrong == 0 ? "the form is as due" : wrong + " are not as due"));
        if (wrong != 0) {
            System.exit(1);
        }
    }
}
