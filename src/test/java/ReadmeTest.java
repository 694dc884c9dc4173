import java.io.IOException;
import java.lang.reflect.Field;
import java.lang.reflect.Method;
import java.lang.reflect.Modifier;
import java.nio.file.Files;
import java.nio.file.Path;
import java.util.Arrays;
import java.util.Set;
import java.util.TreeSet;
import java.util.regex.Matcher;
import java.util.regex.Pattern;

/** README.md tells how to use the class: its example answers what it says, and it leaves no call out. */
public final class ReadmeTest {
    private static final Pattern EXAMPLE = Pattern.compile("(?s)```java\n(.*?)```");
    private static final Pattern MADE = Pattern.compile("SortKernel kernel = new SortKernel\\(([^)]*)\\);");
    private static final Pattern CALL = Pattern.compile("kernel\\.(\\w+)\\(([^)]*)\\); +// (-?\\d+)(:.*)?");

    private static int wrong = 0;

    private static void tell(String fault) {
        wrong++;
        System.out.println(fault);
    }

    private static int[] numbers(String list) {
        return list.isEmpty() ? new int[0] : Arrays.stream(list.split(", ")).mapToInt(Integer::parseInt).toArray();
    }

    private static int answer(SortKernel kernel, String name, int[] given) throws ReflectiveOperationException {
        Class<?>[] types = new Class<?>[given.length];
        Arrays.fill(types, int.class);
        Object[] values = Arrays.stream(given).boxed().toArray();
        return (int) SortKernel.class.getMethod(name, types).invoke(kernel, values);
    }

    private static void checkCall(SortKernel kernel, String row) throws ReflectiveOperationException {
        Matcher call = CALL.matcher(row);
        if (!call.matches()) {
            tell("README.md has a row that is no call with its answer: " + row);
            return;
        }
        int got = answer(kernel, call.group(1), numbers(call.group(2)));
        if (got != Integer.parseInt(call.group(3))) {
            tell("README.md: " + row + " - it answered " + got);
        }
    }

    private static void checkExample(String readme) throws ReflectiveOperationException {
        Matcher example = EXAMPLE.matcher(readme);
        if (!example.find()) {
            tell("README.md has no example");
            return;
        }
        String[] rows = example.group(1).split("\n");
        Matcher made = MADE.matcher(rows[0]);
        if (!made.matches()) {
            tell("README.md: the example's first row makes no object: " + rows[0]);
            return;
        }
        int[] m = numbers(made.group(1));
        SortKernel kernel = new SortKernel(m[0], m[1], m[2]);
        for (String row : Arrays.asList(rows).subList(1, rows.length)) {
            checkCall(kernel, row);
        }
    }

    /** Each call as the table's row has it, each constant with its value. */
    private static void checkFace(String readme) throws IllegalAccessException {
        Set<String> missing = new TreeSet<>();
        for (Method m : SortKernel.class.getDeclaredMethods()) {
            if (Modifier.isPublic(m.getModifiers()) && !readme.contains("| `" + m.getName() + "(")) {
                missing.add(m.getName());
            }
        }
        for (Field f : SortKernel.class.getDeclaredFields()) {
            boolean constant = Modifier.isPublic(f.getModifiers());
            if (constant && !readme.contains("`" + f.getName() + "` (" + f.getInt(null) + ")")
                    && !readme.contains("`" + f.getName() + "` is " + f.getInt(null))) {
                missing.add(f.getName());
            }
        }
        if (!missing.isEmpty()) {
            tell("README.md does not tell " + missing);
        }
    }

    private static void checkTests(String readme) throws IOException {
        if (!readme.contains("\n.ci/run\n")) {
            tell("README.md does not tell how to run the tests");
        }
        try (var files = Files.list(Path.of("src/test/java"))) {
            files.map(file -> file.getFileName().toString().replace(".java", ""))
                .filter(name -> !readme.contains("- `" + name + "`: "))
                .forEach(name -> tell("README.md does not tell of the test " + name));
        }
    }

    public static void main(String[] args) throws ReflectiveOperationException, IOException {
        String readme = Files.readString(Path.of("README.md"));
        checkExample(readme);
        checkFace(readme);
        checkTests(readme);
        System.out.println(wrong == 0 ? "README.md is as the class is" : wrong + " faults of README.md");
        if (wrong != 0) {
            System.exit(1);
        }
    }
}
