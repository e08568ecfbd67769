import java.io.IOException;
import java.lang.reflect.Method;
import java.nio.file.Files;
import java.nio.file.Path;
import java.util.Arrays;
import java.util.Set;
import java.util.TreeSet;
import java.util.regex.Matcher;
import java.util.regex.Pattern;

// The README's example answers what the README says, and its table has every call. Run from the project's root.
public final class ReadmeTest {
    private static final Path README = Path.of("README.md");
    private static final Pattern EXAMPLE = Pattern.compile("(?m)^x\\.(\\w+)\\(([^)]*)\\); *// (-?\\d+)(:|$)");
    private static final Pattern ANY_CALL = Pattern.compile("(?m)^x\\.");
    private static final Pattern TABLE_ROW = Pattern.compile("(?m)^\\| `(\\w+)\\(([^)]*)\\)` \\|");

    private static int wrong = 0;

    private static void want(boolean holds, String what) {
        if (!holds) {
            wrong++;
            System.out.println(what);
        }
    }

    private static int[] numbers(String arguments) {
        return arguments.isEmpty() ? new int[0]
                : Arrays.stream(arguments.split(", ")).mapToInt(Integer::parseInt).toArray();
    }

    private static int answer(ChangeRooms x, String name, int[] arguments) throws ReflectiveOperationException {
        Class<?>[] types = new Class<?>[arguments.length];
        Arrays.fill(types, int.class);
        Object[] boxed = Arrays.stream(arguments).boxed().toArray();
        return (int) ChangeRooms.class.getMethod(name, types).invoke(x, boxed);
    }

    private static void checkExample(String readme) throws ReflectiveOperationException {
        ChangeRooms x = new ChangeRooms();
        long made = 0;
        Matcher example = EXAMPLE.matcher(readme);
        while (example.find()) {
            int got = answer(x, example.group(1), numbers(example.group(2)));
            want(got == Integer.parseInt(example.group(3)), example.group() + " answered " + got);
            made++;
        }
        long told = ANY_CALL.matcher(readme).results().count();
        want(made > 0 && made == told, told + " calls in the example, " + made + " of them with an answer");
    }

    private static void checkTable(String readme) {
        Set<String> told = new TreeSet<>();
        Matcher row = TABLE_ROW.matcher(readme);
        while (row.find()) {
            int count = row.group(2).isEmpty() ? 0 : row.group(2).split(", ").length;
            want(told.add(row.group(1) + "/" + count), "twice in the table: " + row.group(1));
        }
        Set<String> face = new TreeSet<>();
        for (Method method : ChangeRooms.class.getMethods()) {
            if (method.getDeclaringClass() == ChangeRooms.class) {
                face.add(method.getName() + "/" + method.getParameterCount());
            }
        }
        want(told.equals(face), "the table has " + told + ", the class " + face);
    }

    public static void main(String[] args) throws IOException, ReflectiveOperationException {
        String readme = Files.readString(README);
        checkExample(readme);
        checkTable(readme);
        System.out.println(wrong == 0 ? "the README is right" : wrong + " faults in the README");
        if (wrong != 0) {
            System.exit(1);
        }
    }
}
