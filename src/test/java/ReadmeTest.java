import java.io.File;
import java.lang.reflect.Method;
import java.nio.charset.StandardCharsets;
import java.nio.file.Files;
import java.nio.file.Path;
import java.util.regex.Matcher;
import java.util.regex.Pattern;

/** README.md against the program and its tests: the calls that it shows answer as it tells, each test is named. */
public final class ReadmeTest {
    private static final Pattern CALL = Pattern.compile("x\\.(\\w+)\\(([^)]*)\\);");
    private static final Pattern DUE = Pattern.compile("// (-?\\d+)");

    private static int looked = 0;
    private static int wrong = 0;

    private static void must(boolean holds, String what) {
        looked++;
        if (!holds) {
            wrong++;
            System.out.println("README.md: " + what);
        }
    }

    private static long answer(RoundDance x, String name, String arguments) throws Exception {
        for (Method m : RoundDance.class.getMethods()) {
            if (m.getName().equals(name)) {
                return ((Number) m.invoke(x, numbers(arguments))).longValue();
            }
        }
        throw new IllegalArgumentException("there is no call " + name);
    }

    private static Object[] numbers(String arguments) {
        String[] each = arguments.isEmpty() ? new String[0] : arguments.split(", ");
        Object[] numbers = new Object[each.length];
        for (int i = 0; i < each.length; i++) {
            numbers[i] = each[i].startsWith("'") ? each[i].charAt(1) : Integer.parseInt(each[i]);
        }
        return numbers;
    }

    /** The lines of the example, from the new object on; a number behind a line is what its last call answers. */
    private static int example(String[] lines) throws Exception {
        RoundDance x = null;
        int told = 0;
        for (String line : lines) {
            x = line.contains("RoundDance x = new RoundDance();") ? new RoundDance() : x;
            Matcher call = CALL.matcher(line);
            Matcher due = DUE.matcher(line);
            long last = 0;
            boolean called = false;
            while (x != null && call.find()) {
                last = answer(x, call.group(1), call.group(2));
                called = true;
            }
            if (called && due.find()) {
                told++;
                must(last == Long.parseLong(due.group(1)), line.trim() + " answered " + last);
            }
        }
        return told;
    }

    public static void main(String[] args) throws Exception {
        String readme = new String(Files.readAllBytes(Path.of("README.md")), StandardCharsets.UTF_8);
        must(example(readme.split("\n")) > 0, "there is no example");
        for (Method m : RoundDance.class.getDeclaredMethods()) {
            boolean open = java.lang.reflect.Modifier.isPublic(m.getModifiers());
            must(!open || readme.contains("`" + m.getName() + "`"), m.getName() + " is not named");
        }
        for (String file : new File("src/test/java").list()) {
            String name = file.replace(".java", "");
            must(readme.contains("`" + name + "`"), name + " is not named");
        }
        must(readme.contains(".ci/run"), ".ci/run is not named");
        System.out.println("ReadmeTest: " + looked + " looks, " + wrong + " wrong");
        if (wrong != 0) {
            System.exit(1);
        }
    }
}
