import java.lang.reflect.Method;
import java.lang.reflect.Modifier;
import java.nio.file.Files;
import java.nio.file.Path;
import java.util.Arrays;
import java.util.regex.Matcher;
import java.util.regex.Pattern;

/**
 * README.md tells every public method, and the calls of its example answer what it tells. Runs in
 * the project's folder, as .ci/run does.
 */
public final class ReadmeTest {
    private static final Pattern CALL =
            Pattern.compile("(?m)^game\\.(\\w+)\\(([^)]*)\\); +// (-?\\d+): .*$");
    private static int wrong = 0;

    public static void main(String[] args) throws Exception {
        String readme = Files.readString(Path.of("README.md"));
        theExample(readme);
        theMethods(readme);
        theConstants(readme);
        must(readme.contains(".ci/run"), "README.md doesn't say how to run the tests");
        System.out.println(wrong == 0 ? "README.md is as due" : wrong + " faults of README.md");
        if (wrong != 0) {
            System.exit(1);
        }
    }

    private static void must(boolean holds, String fault) {
        if (!holds) {
            wrong++;
            System.out.println(fault);
        }
    }

    private static void theExample(String readme) throws ReflectiveOperationException {
        SmallKalah game = new SmallKalah();
        Matcher call = CALL.matcher(readme);
        int calls = 0;
        while (call.find()) {
            calls++;
            Object got = answer(game, call.group(1), numbers(call.group(2)));
            must(got.equals(Integer.valueOf(call.group(3))), call.group() + " answered " + got);
        }
        // A line that the pattern doesn't know would go untested.
        long told = readme.lines().filter(line -> line.startsWith("game.")).count();
        must(calls > 0 && calls == told, calls + " calls of README.md's " + told + " are tested");
    }

    private static Object[] numbers(String list) {
        if (list.isEmpty()) {
            return new Object[0];
        }
        return Arrays.stream(list.split(", ")).map(Integer::valueOf).toArray();
    }

    private static Object answer(SmallKalah game, String name, Object[] numbers)
            throws ReflectiveOperationException {
        Class<?>[] types = new Class<?>[numbers.length];
        Arrays.fill(types, int.class);
        return SmallKalah.class.getMethod(name, types).invoke(game, numbers);
    }

    private static void theMethods(String readme) {
        for (Method m : SmallKalah.class.getDeclaredMethods()) {
            if (Modifier.isPublic(m.getModifiers())) {
                must(readme.contains("| `" + m.getName() + "("),
                        "README.md doesn't tell " + m.getName());
            }
        }
    }

    private static void theConstants(String readme) {
        must(readme.contains("`BAD_ARG` is " + SmallKalah.BAD_ARG), "README.md tells BAD_ARG wrong");
        must(readme.contains("`FULL` " + SmallKalah.FULL), "README.md tells FULL wrong");
        must(readme.contains("`NONE` " + SmallKalah.NONE), "README.md tells NONE wrong");
    }
}
