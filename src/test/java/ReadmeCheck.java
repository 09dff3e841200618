import java.io.IOException;
import java.lang.reflect.Method;
import java.lang.reflect.Modifier;
import java.nio.file.Files;
import java.nio.file.Path;
import java.util.Map;
import java.util.Set;
import java.util.TreeSet;
import java.util.regex.Matcher;
import java.util.regex.Pattern;
import java.util.stream.Stream;

/** README.md: its example is run, call by call, and it names every call and every test that there is. */
public final class ReadmeCheck {
    private static final Map<String, Integer> CONSTANTS = Map.of("NONE", Due.NONE, "UNKNOWN", Due.UNKNOWN,
        "OUTSIDE", Due.OUTSIDE, "NOT", Due.NOT, "FULL", Due.FULL);

    private static int number(String word) {
        String name = word.replace("SwallowCount.", "");
        return CONSTANTS.containsKey(name) ? CONSTANTS.get(name) : Integer.parseInt(name);
    }

    private static String[] words(String list) {
        return list.isEmpty() ? new String[0] : list.split(", ");
    }

    private static int ask(SwallowCount x, String name, String list) throws ReflectiveOperationException {
        String[] given = words(list);
        for (Method method : SwallowCount.class.getDeclaredMethods()) {
            if (method.getName().equals(name) && method.getParameterCount() == given.length) {
                Object[] arguments = new Object[given.length];
                for (int k = 0; k < given.length; k++) {
                    boolean truth = method.getParameterTypes()[k] == boolean.class;
                    arguments[k] = truth ? (Object) Boolean.valueOf(given[k]) : (Object) number(given[k]);
                }
                return (Integer) method.invoke(x, arguments);
            }
        }
        throw new IllegalArgumentException("README.md asks for " + name + "(" + list + "), which there is not");
    }

    private static void example(String page) throws ReflectiveOperationException {
        Due.heading("README.md, the example");
        Matcher text = Pattern.compile("for \\(char letter : \"([^\"]*)\"").matcher(page);
        Due.must(text.find(), "the example has a text");
        SwallowCount x = new SwallowCount();
        Due.feed(x, text.group(1));
        Matcher row = Pattern.compile("(?m)^x\\.(\\w+)\\((.*)\\); +// (-?\\w+): .*$").matcher(page);
        int rows = 0;
        while (row.find()) {
            rows++;
            Due.is(row.group(1) + "(" + row.group(2) + ")", ask(x, row.group(1), row.group(2)), number(row.group(3)));
        }
        int due = Pattern.compile("(?m)^x\\.").split(page, -1).length - 1;
        Due.is("rows of the example that were run", rows, due);
        Due.must(rows > 0, "the example has rows");
    }

    private static void calls(String page) {
        Due.heading("README.md, the calls");
        for (Method method : SwallowCount.class.getDeclaredMethods()) {
            if (Modifier.isPublic(method.getModifiers())) {
                Matcher row = Pattern.compile("(?m)^\\| `" + method.getName() + "\\(([^)]*)\\)` \\|").matcher(page);
                boolean found = row.find();
                Due.must(found, method.getName() + " has a row");
                Due.is("parameters of " + method.getName(), found ? words(row.group(1)).length : Due.NONE, method.getParameterCount());
            }
        }
    }

    private static void tests(String page) throws IOException {
        Due.heading("README.md, the tests");
        Set<String> there = new TreeSet<>();
        try (Stream<Path> files = Files.list(Path.of("src/test/java"))) {
            files.forEach(file -> there.add(file.toString()));
        }
        Set<String> named = new TreeSet<>();
        Matcher name = Pattern.compile("src/test/java/\\w+\\.java").matcher(page);
        while (name.find()) {
            named.add(name.group());
        }
        Due.must(named.equals(there), "named are " + named + ", there are " + there);
        Due.must(page.contains("\n.ci/run\n"), "the tests are run by .ci/run");
    }

    public static void main(String[] args) throws IOException, ReflectiveOperationException {
        String page = Files.readString(Path.of("README.md"));
        example(page);
        calls(page);
        tests(page);
        Due.end();
    }
}
