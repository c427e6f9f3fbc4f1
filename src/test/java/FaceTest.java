import java.io.IOException;
import java.lang.reflect.Constructor;
import java.lang.reflect.Field;
import java.lang.reflect.Method;
import java.lang.reflect.Modifier;
import java.nio.file.Files;
import java.nio.file.Path;
import java.util.ArrayList;
import java.util.Collections;
import java.util.List;
import java.util.Map;
import java.util.Set;
import java.util.TreeMap;
import java.util.TreeSet;
import java.util.regex.Matcher;
import java.util.regex.Pattern;

/**
 * The public face is the document's and no more, and the source keeps to those rules of
 * LANGUAGE.md that can be read off its words. Runs in the project's folder, as .ci/run does.
 */
public final class FaceTest {
    private static final String SOURCE = "src/main/java/SmallKalah.java";
    private static final Set<String> METHODS = Set.of(
            "int put(int,int)", "int stores(int,int)", "int turn(int)", "int seeds(int)",
            "int toMove()", "boolean over()", "int play(int)", "int undo()", "int value()",
            "int after(int)", "int best()", "int moves()", "int length()", "int worst()");
    private static final int MOST_LINES = 60;
    private static final int DEEPEST_CALLS = 6;
    private static final int MOST_FIELDS = 40;
    private static final Set<String> CONSTANTS = Set.of("BAD_ARG", "FULL", "NONE");
    private static final String FORBIDDEN_WORDS =
            "import|package|throw|throws|try|catch|finally|synchronized|assert|instanceof|null"
            + "|float|double|String|Math|Integer|Long|System|Arrays|Object|protected|enum|record"
            + "|interface|extends|implements|var|native|transient|volatile|getClass|hashCode"
            + "|toString|equals|clone";
    private static int wrong = 0;

    public static void main(String[] args) throws IOException {
        theClass();
        theMethods();
        theFields();
        theWords();
        theCalls();
        System.out.println(wrong == 0 ? "the face is as due" : wrong + " faults of the face");
        if (wrong != 0) {
            System.exit(1);
        }
    }

    private static void must(boolean holds, String fault) {
        if (!holds) {
            wrong++;
            System.out.println(fault);
        }
    }

    private static void theClass() {
        Class<?> face = SmallKalah.class;
        must(Modifier.isPublic(face.getModifiers()), "the class is not public");
        must(Modifier.isFinal(face.getModifiers()), "the class is not final");
        must(face.getSuperclass() == Object.class, "the class extends another");
        must(face.getInterfaces().length == 0, "the class implements an interface");
        must(face.getDeclaredClasses().length == 0, "the class has nested classes");
        Constructor<?>[] made = face.getDeclaredConstructors();
        must(made.length == 1 && made[0].getParameterCount() == 0
                && Modifier.isPublic(made[0].getModifiers()), "the constructor is not as due");
    }

    private static void theMethods() {
        Set<String> seen = new TreeSet<>();
        Set<String> names = new TreeSet<>();
        for (Method m : SmallKalah.class.getDeclaredMethods()) {
            if (Modifier.isPublic(m.getModifiers())) {
                names.add(m.getName());
                must(!Modifier.isStatic(m.getModifiers()), m.getName() + " is static");
                String parameters = String.join(",", java.util.Arrays.stream(m.getParameterTypes())
                        .map(Class::getName).toList());
                seen.add(m.getReturnType().getName() + " " + m.getName() + "(" + parameters + ")");
            }
        }
        must(seen.equals(METHODS), "the public methods are " + seen);
        for (Method m : SmallKalah.class.getDeclaredMethods()) {
            int mods = m.getModifiers();
            must(Modifier.isPublic(mods) || Modifier.isPrivate(mods), m + " is visible");
            must(!Modifier.isPrivate(mods) || !names.contains(m.getName()),
                    m + " bears a public name");
            must(m.getParameterCount() <= 7, m + " has too many parameters");
            must(!m.getReturnType().isArray(), m + " answers an array");
        }
    }

    private static void theFields() {
        Set<String> seen = new TreeSet<>();
        int held = 0;
        for (Field f : SmallKalah.class.getDeclaredFields()) {
            int mods = f.getModifiers();
            held += Modifier.isStatic(mods) ? 0 : 1;
            must(Modifier.isPublic(mods) || Modifier.isPrivate(mods), f + " is visible");
            must(!Modifier.isStatic(mods) || Modifier.isFinal(mods)
                    && (f.getType() == int.class || f.getType() == long.class),
                    f + " is static and no constant");
            if (Modifier.isPublic(mods)) {
                must(Modifier.isStatic(mods) && f.getType() == int.class, f + " is no int constant");
                seen.add(f.getName());
            }
        }
        must(seen.equals(CONSTANTS), "the public constants are " + seen);
        must(held <= MOST_FIELDS, "there are " + held + " fields");
    }

    private static String source() throws IOException {
        return Files.readString(Path.of(SOURCE))
                .replaceAll("(?s)/\\*.*?\\*/", " ").replaceAll("//.*", " ");
    }

    private static void theWords() throws IOException {
        String text = source();
        Matcher found = Pattern.compile("\\b(" + FORBIDDEN_WORDS + ")\\b").matcher(text);
        while (found.find()) {
            must(false, "the source has the word " + found.group());
        }
        must(!text.contains("->") && !text.contains("::") && !text.contains("\""),
                "the source has a lambda, a method reference or a text");
        Matcher made = Pattern.compile("\\bnew\\b.*").matcher(text);
        while (made.find()) {
            must(made.group().matches("new int\\[[A-Z_]+\\];"), "the source has " + made.group());
        }
        Matcher within = Pattern.compile("\\b(?!if|for|while|switch|return)\\w+\\([^(){};]*\\b"
                + "(?!if|for|while|switch|return)\\w+\\(").matcher(text);
        while (within.find()) {
            must(false, "a call stands inside a call: " + within.group());
        }
    }

    /** Methods are short, none comes back to itself, and calls go no deeper than the rules let. */
    private static void theCalls() throws IOException {
        Map<String, String> bodies = new TreeMap<>();
        Matcher method = Pattern.compile("(?ms)^    (?:public|private) [^;={]*?(\\w+)\\([^;={]*?\\{\\n"
                + "(.*?)^    \\}\\n").matcher(source());
        while (method.find()) {
            must(method.group().lines().count() <= MOST_LINES, method.group(1) + " is long");
            must(bodies.put(method.group(1), method.group(2)) == null,
                    method.group(1) + " is there twice");
        }
        int declared = SmallKalah.class.getDeclaredMethods().length + 1;
        must(bodies.size() == declared, bodies.size() + " of " + declared + " methods were found");
        for (String name : bodies.keySet()) {
            int depth = deepest(name, bodies, new ArrayList<>());
            must(depth <= DEEPEST_CALLS, name + " goes " + depth + " calls deep");
        }
    }

    private static int deepest(String name, Map<String, String> bodies, List<String> above) {
        if (above.contains(name)) {
            must(false, name + " comes back to itself by " + above);
            return 0;
        }
        List<String> path = new ArrayList<>(above);
        path.add(name);
        List<Integer> below = new ArrayList<>(List.of(0));
        for (String other : bodies.keySet()) {
            if (Pattern.compile("\\b" + other + "\\(").matcher(bodies.get(name)).find()) {
                below.add(deepest(other, bodies, path));
            }
        }
        return 1 + Collections.max(below);
    }
}
