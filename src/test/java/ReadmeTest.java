import java.lang.reflect.InvocationTargetException;
import java.lang.reflect.Method;
import java.nio.file.Files;
import java.nio.file.Path;
import java.util.HashMap;
import java.util.List;
import java.util.Map;
import java.util.Set;
import java.util.TreeSet;
import java.util.regex.Matcher;
import java.util.regex.Pattern;
import java.util.stream.Stream;

/** What README.md shows is so: its calls answer what stands behind them, and its list of tests names every test. */
public final class ReadmeTest {
    private static final String FIRST_CALL = "Feederlight net = new Feederlight();";
    private static final Pattern CALL =
            Pattern.compile("(?:int (\\w+) = )?net\\.(\\w+)\\(([^)]*)\\); +// ([^:]+)(?:: .+)?");
    private static final Pattern TEST = Pattern.compile("`(\\w+Test)`");

    private final Feederlight net = new Feederlight();
    private final Map<String, Integer> numbers = new HashMap<>();

    public static void main(String[] args) throws Exception {
        List<String> readme = Files.readAllLines(Path.of("README.md"));
        Check.part("the use that it shows", () -> new ReadmeTest().use(codeOf(readme)));
        Set<String> tests = testsThere();
        Check.part("the tests that it names", () -> Check.due("the names", testsNamed(readme), tests));
        Check.end();
    }

    private static List<String> codeOf(List<String> readme) {
        int first = readme.indexOf("```java") + 1;
        int lines = readme.subList(first, readme.size()).indexOf("```");
        return readme.subList(first, first + lines).stream().filter(line -> !line.isEmpty()).toList();
    }

    private void use(List<String> code) {
        Check.due("the first line", code.get(0).startsWith(FIRST_CALL), true);
        for (String line : code.subList(1, code.size())) {
            Matcher call = CALL.matcher(line);
            if (call.matches()) {
                Check.due(line, answer(call), call.group(4));
            } else {
                Check.fail("no call with its answer: " + line);
            }
        }
    }

    /** As README.md writes it: a number, true or false, or "throws" and the exception's name. */
    private String answer(Matcher call) {
        Object[] values = Stream.of(call.group(3).split(", ")).filter(word -> !word.isEmpty())
                .map(this::valueOf).toArray();
        try {
            Object answer = method(call.group(2), values.length).invoke(net, values);
            if (call.group(1) != null) {
                numbers.put(call.group(1), (Integer) answer);
            }
            return String.valueOf(answer);
        } catch (InvocationTargetException e) {
            return "throws " + e.getCause().getClass().getSimpleName();
        } catch (IllegalAccessException e) {
            return "cannot be called";
        }
    }

    private Integer valueOf(String word) {
        return numbers.containsKey(word) ? numbers.get(word) : Integer.valueOf(word);
    }

    private static Method method(String name, int parameters) {
        return Stream.of(Feederlight.class.getMethods())
                .filter(method -> method.getName().equals(name) && method.getParameterCount() == parameters)
                .findAny().orElseThrow();
    }

    private static Set<String> testsThere() throws Exception {
        Set<String> tests = new TreeSet<>();
        try (Stream<Path> files = Files.list(Path.of("src/test/java"))) {
            files.map(file -> file.getFileName().toString()).filter(name -> name.endsWith("Test.java"))
                    .forEach(name -> tests.add(name.substring(0, name.length() - ".java".length())));
        }
        return tests;
    }

    private static Set<String> testsNamed(List<String> readme) {
        Set<String> names = new TreeSet<>();
        for (String line : readme.subList(readme.indexOf("## Tests"), readme.size())) {
            Matcher test = TEST.matcher(line);
            while (test.find()) {
                names.add(test.group(1));
            }
        }
        return names;
    }
}
