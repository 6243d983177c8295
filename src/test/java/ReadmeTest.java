import java.io.IOException;
import java.lang.reflect.Method;
import java.lang.reflect.Modifier;
import java.nio.file.Files;
import java.nio.file.Path;
import java.util.Set;
import java.util.TreeSet;
import java.util.regex.Matcher;
import java.util.regex.Pattern;
import java.util.stream.Stream;

/** What README.md says is so: the answers of its run of calls, and which tests there are. */
public final class ReadmeTest {
    private static final Pattern WRITTEN = Pattern.compile("for \\(char letter : \"([^\"]*)\"\\.toCharArray\\(\\)\\)");
    private static final Pattern CALL = Pattern.compile("x\\.(\\w+)\\(([^)]*)\\);\\s*// ([^:]+): .+");
    private static final Pattern LISTED = Pattern.compile("(?m)^\\| (\\w+Test) \\|");

    public static void main(String[] args) throws Exception {
        String page = Files.readString(Path.of("README.md"));
        Set<String> called = runOf(page);
        for (Method method : FanBlades.class.getDeclaredMethods()) {
            boolean open = Modifier.isPublic(method.getModifiers());
            if (open && !Set.of("write", "wipe", "fold", "unspy").contains(method.getName())) {
                Check.due("README.md shows " + method.getName(), called.contains(method.getName()) ? 1 : 0, 1);
            }
        }
        testsOf(page);
        Check.due("README.md names .ci/run", page.contains("\n    .ci/run\n") ? 1 : 0, 1);
        Check.due(".ci/run can be run", Files.isExecutable(Path.of(".ci/run")) ? 1 : 0, 1);
        Check.finish();
    }

    /** Makes the calls of the page's run on one object; answers their names. */
    private static Set<String> runOf(String page) throws Exception {
        Set<String> called = new TreeSet<>();
        int begin = page.indexOf("```java\n") + 8;
        String run = page.substring(begin, page.indexOf("```", begin));
        Matcher written = WRITTEN.matcher(run);
        Check.due("README.md writes a text", written.find() ? 1 : 0, 1);
        FanBlades x = new FanBlades();
        for (char letter : written.group(1).toCharArray()) {
            x.write(letter);
        }
        for (String line : run.split("\n")) {
            Matcher call = CALL.matcher(line);
            if (call.matches()) {
                called.add(call.group(1));
                Check.due("README.md: " + line, answer(x, call.group(1), call.group(2)), number(call.group(3)));
            } else {
                Check.due("README.md: a call without its answer: " + line, line.startsWith("x.") ? 1 : 0, 0);
            }
        }
        return called;
    }

    private static long answer(FanBlades x, String name, String told) throws Exception {
        String[] numbers = told.isEmpty() ? new String[0] : told.split(", ");
        for (Method method : FanBlades.class.getMethods()) {
            if (method.getName().equals(name) && method.getParameterCount() == numbers.length) {
                Object[] given = new Object[numbers.length];
                for (int i = 0; i < given.length; i++) {
                    given[i] = argument(method.getParameterTypes()[i], numbers[i]);
                }
                return ((Number) method.invoke(x, given)).longValue();
            }
        }
        Check.due("README.md: there is no " + name + "(" + told + ")", 0, 1);
        return 0;
    }

    private static Object argument(Class<?> type, String told) throws Exception {
        if (type == boolean.class) {
            return Boolean.valueOf(told);
        }
        if (type == long.class) {
            return number(told);
        }
        return (int) number(told);
    }

    /** A number, a letter between quotes, or the name of a constant. */
    private static long number(String told) throws Exception {
        if (told.matches("'.'")) {
            return told.charAt(1);
        }
        if (told.matches("[A-Z]+")) {
            return FanBlades.class.getField(told).getInt(null);
        }
        return Long.parseLong(told);
    }

    private static void testsOf(String page) throws IOException {
        Set<String> listed = new TreeSet<>();
        Matcher matcher = LISTED.matcher(page);
        while (matcher.find()) {
            listed.add(matcher.group(1) + ".java");
        }
        Set<String> there = new TreeSet<>();
        try (Stream<Path> files = Files.list(Path.of("src/test/java"))) {
            files.map(file -> file.getFileName().toString()).filter(name -> name.endsWith("Test.java")).forEach(there::add);
        }
        Check.due("README.md lists " + listed + ", there are " + there, listed.equals(there) ? 1 : 0, 1);
    }
}
