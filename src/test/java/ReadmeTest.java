import java.io.IOException;
import java.lang.reflect.Method;
import java.lang.reflect.Modifier;
import java.nio.file.Files;
import java.nio.file.Path;
import java.util.ArrayList;
import java.util.List;
import java.util.Set;
import java.util.TreeSet;
import java.util.regex.Matcher;
import java.util.regex.Pattern;
import java.util.stream.Stream;

/** The calls in README.md answer as it says, and it names every method of the class and every test of the project. */
public final class ReadmeTest {
    private static final Path TESTS = Path.of("src/test/java");
    private static final Pattern BLOCK = Pattern.compile("(?ms)^```(\\w*)\n(.*?)^```$");
    private static final Pattern MADE = Pattern.compile("KnapsackFamily x = new KnapsackFamily\\(\\);");
    private static final Pattern CALLED = Pattern.compile("x\\.(\\w+)\\(([^()]*)\\); +// (-?\\d+)(: .+)?");
    private static final Pattern ROW = Pattern.compile("(?m)^\\| `(\\w+)\\(([\\w, ]*)\\)` \\|");
    private static final Pattern TEST_FILE = Pattern.compile("src/test/java/(\\w+\\.java)");
    private static int wrong = 0;

    private static void hold(boolean holds, String what) {
        if (!holds) {
            wrong++;
            System.out.println("not true of README.md: " + what);
        }
    }

    private static List<String> blocks(String text, String language) {
        List<String> found = new ArrayList<>();
        Matcher block = BLOCK.matcher(text);
        while (block.find()) {
            if (block.group(1).equals(language)) {
                found.add(block.group(2));
            }
        }
        return found;
    }

    /** A sum of products of numbers, such as 4 * 2 + 0. */
    private static int number(String text) {
        int sum = 0;
        for (String term : text.split("\\+")) {
            int product = 1;
            for (String factor : term.split("\\*")) {
                product *= Integer.parseInt(factor.strip());
            }
            sum += product;
        }
        return sum;
    }

    private static int answer(KnapsackFamily x, String name, String arguments) throws ReflectiveOperationException {
        String[] texts = arguments.isBlank() ? new String[0] : arguments.split(",");
        Class<?>[] types = new Class<?>[texts.length];
        Object[] numbers = new Object[texts.length];
        for (int i = 0; i < texts.length; i++) {
            types[i] = int.class;
            numbers[i] = number(texts[i]);
        }
        return (Integer) KnapsackFamily.class.getMethod(name, types).invoke(x, numbers);
    }

    /** Makes the calls of a block, and gathers the names of the methods called. */
    private static void run(String block, Set<String> called) throws ReflectiveOperationException {
        KnapsackFamily x = new KnapsackFamily();
        for (String line : block.split("\n")) {
            Matcher call = CALLED.matcher(line);
            if (MADE.matcher(line).matches()) {
                x = new KnapsackFamily();
            } else if (call.matches()) {
                int got = answer(x, call.group(1), call.group(2));
                hold(got == Integer.parseInt(call.group(3)), line + " (answered " + got + ")");
                called.add(call.group(1));
            } else {
                hold(false, "each line of a run makes an object or tells a call and its answer: " + line);
            }
        }
    }

    private static Set<String> methods() {
        Set<String> names = new TreeSet<>();
        for (Method method : KnapsackFamily.class.getDeclaredMethods()) {
            if (Modifier.isPublic(method.getModifiers())) {
                names.add(method.getName());
            }
        }
        return names;
    }

    private static void checkRuns(String text) throws ReflectiveOperationException {
        Set<String> called = new TreeSet<>();
        for (String block : blocks(text, "java")) {
            run(block, called);
        }
        hold(called.equals(methods()), "its runs call every method: " + called);
    }

    private static void checkRows(String text, String source) {
        Set<String> told = new TreeSet<>();
        Matcher row = ROW.matcher(text);
        while (row.find()) {
            String parameters = row.group(2).replaceAll("\\w+", "int $0");
            String face = "public int " + row.group(1) + "(" + parameters + ") {";
            hold(source.contains(face), "the class has " + face);
            hold(told.add(row.group(1)), "it tells " + row.group(1) + " once");
        }
        hold(told.equals(methods()), "its tables tell every method: " + told);
    }

    private static void checkTests(String text) throws IOException {
        Set<String> named = new TreeSet<>();
        Matcher file = TEST_FILE.matcher(text);
        while (file.find()) {
            named.add(file.group(1));
        }
        Set<String> there = new TreeSet<>();
        try (Stream<Path> files = Files.list(TESTS)) {
            files.forEach(path -> there.add(path.getFileName().toString()));
        }
        hold(named.equals(there), "it names every test of the project: " + named + ", there are " + there);
        hold(blocks(text, "sh").contains(".ci/run\n"), "it says that .ci/run runs the tests");
        hold(Files.isRegularFile(Path.of(".ci/run")), "there is .ci/run");
    }

    /** The argument is the path of the class's source; README.md lies in the directory where the test is run. */
    public static void main(String[] args) throws Exception {
        String text = Files.readString(Path.of("README.md"));
        String source = Files.readString(Path.of(args.length > 0 ? args[0] : "src/main/java/KnapsackFamily.java"));
        checkRuns(text);
        checkRows(text, source);
        checkTests(text);
        System.out.println(wrong == 0 ? "README.md is true" : wrong + " things are not true of README.md");
        if (wrong != 0) {
            System.exit(1);
        }
    }
}
