import java.io.IOException;
import java.lang.reflect.Method;
import java.nio.file.Files;
import java.nio.file.Path;
import java.util.ArrayList;
import java.util.List;
import java.util.Map;
import java.util.Set;
import java.util.TreeMap;
import java.util.TreeSet;
import java.util.regex.Matcher;
import java.util.regex.Pattern;

/** README.md's example answers so; its table of edges names each test of an edge, and each of them is run. */
public final class ReadmeTest {
    private static final Due DUE = new Due("ReadmeTest");
    private static final List<String> TESTS = List.of("EdgesOfTheRingTest", "EdgesOfDrawingsTest", "EdgesOfTouchesTest",
        "EdgesOfListsTest", "EdgesOfSheetsTest", "EdgesOfUndoneTest", "EdgesOfRunsTest", "RefusalsTest");

    public static void main(String[] args) throws IOException, ReflectiveOperationException {
        String readme = Files.readString(Path.of("README.md"));
        exampleHolds(readme);
        Set<String> promises = new TreeSet<>();
        for (String test : TESTS) {
            String part = readme.substring(readme.indexOf("\n`" + test + "`:\n") + 1);
            int next = part.indexOf("\n`", 1);
            List<String> rows = found("(?m)^\\| (.* \\| [0-9, ]+ \\| `\\w+`) \\|$", next < 0 ? part : part.substring(0, next));
            List<String> named = new ArrayList<>();
            for (String row : rows) {
                String[] places = row.split(" \\| ");
                promises.addAll(List.of(places[places.length - 2].split(", ")));
                named.add(places[places.length - 1].replace("`", ""));
            }
            String text = Files.readString(Path.of("src/test/java", test + ".java"));
            String calls = text.substring(text.indexOf("main("), text.indexOf("DUE.close"));
            List<String> called = found("(?m)^ +(\\w+)\\(\\);$", calls);
            DUE.holds(test + " runs each test of the table, in its order: " + called + ", " + named, called.equals(named));
            List<String> made = found("(?m)^    private static void (\\w+)\\(\\) \\{$", text);
            DUE.holds(test + " runs all that it has", new TreeSet<>(called).equals(new TreeSet<>(made)));
        }
        for (int promise = 1; promise <= 39; promise++) {
            DUE.holds("an edge of promise " + promise, promises.contains(String.valueOf(promise)));
        }
        DUE.close();
    }

    /** Each line of the example that calls something: its answer stands behind "//". */
    private static void exampleHolds(String readme) throws ReflectiveOperationException {
        Map<String, Method> methods = new TreeMap<>();
        for (Method method : WheelOnWheel.class.getDeclaredMethods()) {
            methods.put(method.getName(), method);
        }
        WheelOnWheel x = new WheelOnWheel();
        List<String> lines = found("(?m)^(x\\..*)$", readme);
        Pattern told = Pattern.compile("x\\.(\\w+)\\((.*)\\); +// (-?\\d+)(:.*)?");
        for (String line : lines) {
            Matcher call = told.matcher(line);
            DUE.holds("an answer is told of " + line, call.matches());
            Object[] numbers = Pattern.compile(", *").splitAsStream(call.group(2)).filter(n -> !n.isEmpty())
                .map(n -> n.startsWith("'") ? (int) n.charAt(1) : Integer.parseInt(n)).toArray();
            long got = ((Number) methods.get(call.group(1)).invoke(x, numbers)).longValue();
            DUE.is(0, line, got, Long.parseLong(call.group(3)));
        }
        DUE.holds("the example has calls: " + lines.size(), lines.size() > 10);
    }

    private static List<String> found(String pattern, String text) {
        List<String> found = new ArrayList<>();
        Matcher matcher = Pattern.compile(pattern).matcher(text);
        while (matcher.find()) {
            found.add(matcher.group(1));
        }
        return found;
    }
}
