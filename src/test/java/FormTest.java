import java.io.IOException;
import java.lang.reflect.Field;
import java.lang.reflect.Method;
import java.lang.reflect.Modifier;
import java.nio.file.Files;
import java.nio.file.Path;
import java.util.ArrayList;
import java.util.List;
import java.util.Set;
import java.util.TreeSet;
import java.util.regex.Matcher;
import java.util.regex.Pattern;

/** The public face of the document, and the rules of LANGUAGE.md that can be seen from outside or in the text. */
public final class FormTest {
    private static final Path SOURCE = Path.of("src/main/java/FrozenBits.java");
    private static final int MOST_LINES = 60;

    private static final String[] FACE = {
        "int deep(int)", "int loss(int,int)", "long split(int,int)", "int rank(int,int)", "int freeze(int)",
        "int best(int)", "int coded(int)", "int word(int)", "int light(int)", "int put(int,int)",
        "int hear(int,int)", "int spoil(int,int)", "int measure(int,int)", "int read(int)", "int most(int)",
        "int kept(int,int)", "int chosen(int)", "int check(int,int)", "int open(int,int)", "int fragile(int)",
        "int image(int)", "int restore(int)", "int count(int)"};
    private static final Set<String> CONSTANTS = Set.of("UNKNOWN", "OUTSIDE", "STATE", "NONE", "GONE");

    private static int wrong = 0;

    private static void must(boolean holds, String what) {
        if (!holds) {
            wrong++;
            System.out.println("not so: " + what);
        }
    }

    private static String signature(Method method) {
        List<String> types = new ArrayList<>();
        for (Class<?> type : method.getParameterTypes()) {
            types.add(type.getName());
        }
        return method.getReturnType().getName() + " " + method.getName() + "(" + String.join(",", types) + ")";
    }

    private static void face() {
        Class<FrozenBits> c = FrozenBits.class;
        must(Modifier.isPublic(c.getModifiers()) && Modifier.isFinal(c.getModifiers()), "public and final");
        must(c.getSuperclass() == Object.class && c.getInterfaces().length == 0, "nothing above it");
        must(c.getDeclaredConstructors().length == 1 && c.getConstructors().length == 1, "one public constructor");
        Set<String> seen = new TreeSet<>();
        Set<String> names = new TreeSet<>();
        for (Method method : c.getDeclaredMethods()) {
            if (Modifier.isPublic(method.getModifiers())) {
                seen.add(signature(method));
                names.add(method.getName());
                must(!Modifier.isStatic(method.getModifiers()), method + " is of an object");
            } else if (!method.isSynthetic()) {
                must(Modifier.isPrivate(method.getModifiers()), method + " is private");
            }
        }
        must(seen.equals(new TreeSet<>(List.of(FACE))), "the face is that of the document: " + seen);
        methods(c, names);
        for (Class<?> inside : c.getDeclaredClasses()) {
            must(Modifier.isStatic(inside.getModifiers()), inside + " is static");
            methods(inside, names);
            fields(inside, Set.of());
        }
        fields(c, CONSTANTS);
    }

    private static void methods(Class<?> c, Set<String> names) {
        for (Method method : c.getDeclaredMethods()) {
            must(method.getParameterCount() <= 7, method + " takes at most seven");
            boolean open = Modifier.isPublic(method.getModifiers());
            must(open || !names.contains(method.getName()), method + " bears no public name");
        }
    }

    private static void fields(Class<?> c, Set<String> constants) {
        Set<String> open = new TreeSet<>();
        int held = 0;
        for (Field field : c.getDeclaredFields()) {
            int modifiers = field.getModifiers();
            if (Modifier.isStatic(modifiers)) {
                must(Modifier.isFinal(modifiers), field + " is final");
            } else {
                held++;
            }
            if (Modifier.isPublic(modifiers)) {
                open.add(field.getName());
                must(field.getType() == int.class && Modifier.isStatic(modifiers), field + " is a constant");
            } else {
                must(Modifier.isPrivate(modifiers), field + " is private");
            }
        }
        must(open.equals(constants), c + " has just the public constants of the document");
        must(held <= 20, c + " has at most twenty fields");
    }

    private static void text() throws IOException {
        String source = Files.readString(SOURCE);
        String code = source.replaceAll("(?s)/\\*.*?\\*/", "").replaceAll("//[^\n]*", "");
        String[] ruledOut = {"throw", "throws", "try", "catch", "finally", "synchronized", "assert", "import",
            "package", "float", "double", "Thread", "Random", "Exact", "protected", "native", "volatile"};
        for (String word : ruledOut) {
            must(!Pattern.compile("\\b" + word + "\\b").matcher(code).find(), "no " + word);
        }
        must(!code.contains("->") && !code.contains("::") && !code.contains("@"), "no lambda, reference, annotation");
        Matcher library = Pattern.compile("\\b(System|Integer|Long|Math|Arrays)\\.(\\w+)").matcher(code);
        Set<String> allowed = Set.of("System.arraycopy", "Integer.bitCount", "Math.min", "Math.max", "Math.abs");
        while (library.find()) {
            must(allowed.contains(library.group()), library.group() + " is among what is used of the library");
        }
        must(source.chars().allMatch(sign -> sign < 128), "plain signs");
        objectsOnlyInConstruction(code);
        lengths(source);
    }

    /** All calls of a run live in one room: so nothing is made but with the object itself. */
    private static void objectsOnlyInConstruction(String code) {
        Matcher made = Pattern.compile("\\bnew\\s+(\\w+)").matcher(code);
        int count = 0;
        while (made.find()) {
            count++;
        }
        int begin = code.indexOf("public FrozenBits()");
        String constructor = code.substring(begin, code.indexOf("}", begin));
        int inConstructor = constructor.split("\\bnew\\s").length - 1;
        int inFields = code.split("private final int\\[\\] \\w+ = new int").length - 1;
        must(count == inConstructor + inFields, "each of " + count + " new stands in the making of an object");
    }

    private static void lengths(String source) {
        String[] lines = source.split("\n");
        int start = -1;
        for (int i = 0; i < lines.length; i++) {
            must(lines[i].length() <= 120, "line " + (i + 1) + " is at most 120 long");
            if (lines[i].matches(" {4,8}(public|private|void|boolean|int).*\\) \\{")) {
                start = i;
            } else if (start >= 0 && lines[i].matches(" {4,8}\\}")) {
                must(i - start <= MOST_LINES, lines[start].trim() + " is short");
            }
        }
    }

    public static void main(String[] args) throws IOException {
        face();
        text();
        System.out.println(wrong == 0 ? "the form is as due" : wrong + " rules are not kept");
        if (wrong != 0) {
            System.exit(1);
        }
    }
}
