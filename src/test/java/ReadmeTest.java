import java.io.IOException;
import java.lang.reflect.Method;
import java.nio.file.Files;
import java.nio.file.Path;
import java.util.ArrayList;
import java.util.LinkedHashMap;
import java.util.List;
import java.util.Map;
import java.util.regex.Matcher;
import java.util.regex.Pattern;

/** README.md: what it says of the answers is what the class answers and the document says. */
public final class ReadmeTest {
    private static final Pattern REFUSAL = Pattern.compile("\\b(NONE|BAD|STATE|FULL)\\b");

    public static void main(String[] args) throws ReflectiveOperationException, IOException {
        String readme = Files.readString(Path.of("README.md"));
        String document = Files.readString(Path.of("../shared/DOC.md"));
        example(readme);
        rows(readme, document);
        tests(readme);
        Check.finish();
    }

    /** Each line of the example is called, and answers the number that stands behind it. */
    private static void example(String readme) throws ReflectiveOperationException {
        MixingRelays net = new MixingRelays();
        int end = 1;
        int called = 0;
        Matcher line = Pattern.compile("net\\.(\\w+)\\(([^)]*)\\); +// (-?\\d+)").matcher(readme);
        while (line.find()) {
            String told = line.group(2).replace("end", String.valueOf(end));
            long answer = call(net, line.group(1), told.isEmpty() ? new String[0] : told.split(", "));
            Check.due(line.group(), answer, Long.parseLong(line.group(3)));
            called++;
        }
        Check.due("calls of the example", called, 14);
    }

    private static long call(MixingRelays net, String name, String[] told) throws ReflectiveOperationException {
        for (Method method : MixingRelays.class.getMethods()) {
            Class<?>[] types = method.getParameterTypes();
            if (method.getName().equals(name) && types.length == told.length) {
                Object[] given = new Object[told.length];
                for (int at = 0; at < told.length; at++) {
                    long number = Long.parseLong(told[at].replace("L", ""));
                    given[at] = types[at] == long.class ? (Object) number : (Object) (int) number;
                }
                return ((Number) method.invoke(net, given)).longValue();
            }
        }
        throw new NoSuchMethodException(name);
    }

    /** Each call of the face has its row, with the document's names, and its refusals in their order. */
    private static void rows(String readme, String document) {
        Map<String, List<String>> rows = new LinkedHashMap<>();
        Matcher row = Pattern.compile("(?m)^\\| `(\\w+\\([^)]*\\))` \\|[^|]*\\|([^|]*)\\|$").matcher(readme);
        while (row.find()) {
            rows.put(row.group(1), refusals(row.group(2)));
        }
        Map<String, List<String>> promises = new LinkedHashMap<>();
        Matcher promise = Pattern.compile("(?m)^`(?:int|long) (\\w+\\([^)]*\\))`: (.*)$").matcher(document);
        while (promise.find()) {
            promises.put(promise.group(1).replaceAll("(int|long) ", ""), refusals(promise.group(2)));
        }
        Check.due("promises that are calls", promises.size(), 31);
        Check.holds("the rows are the document's calls, in order",
                new ArrayList<>(rows.keySet()).equals(new ArrayList<>(promises.keySet())));
        for (String call : promises.keySet()) {
            Check.holds(call + " is refused by " + promises.get(call) + ", the row says " + rows.get(call),
                    promises.get(call).equals(rows.get(call)));
        }
    }

    /** Each once, as it first comes. */
    private static List<String> refusals(String text) {
        List<String> names = new ArrayList<>();
        Matcher name = REFUSAL.matcher(text);
        while (name.find()) {
            if (!names.contains(name.group())) {
                names.add(name.group());
            }
        }
        return names;
    }

    private static void tests(String readme) throws IOException {
        try (var files = Files.newDirectoryStream(Path.of("src/test/java"), "*Test.java")) {
            for (Path file : files) {
                String name = file.getFileName().toString().replace(".java", "");
                Check.holds(name + " is told", readme.contains("`" + name + "`"));
            }
        }
    }
}
