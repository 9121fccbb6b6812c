import java.io.IOException;
import java.lang.reflect.Method;
import java.nio.file.Files;
import java.nio.file.Path;
import java.util.Arrays;
import java.util.List;
import java.util.Set;
import java.util.TreeSet;
import java.util.regex.Matcher;
import java.util.regex.Pattern;

/** Makes the calls that README.md shows, and looks for the files that it names. */
public final class ReadmeTest {
    private static final Path README = Path.of("README.md");
    private static final String NEW_OBJECT = "RankedPairs pairs = new RankedPairs();";
    private static final Pattern CALL =
            Pattern.compile("pairs\\.(\\w+)\\(([-\\d, ]*)\\);\\s+// (-?\\d+)(:.*)?");
    private static final Pattern OWN_FILE = Pattern.compile("(src/[\\w/]+\\.java|\\.ci/run)");
    private static final Checks checks = new Checks();
    private static final Set<String> shown = new TreeSet<>();

    public static void main(String[] args) throws IOException, ReflectiveOperationException {
        List<String> lines = Files.readAllLines(README);
        makeShownCalls(lines);
        checks.dueTrue("every method is shown", shown.equals(face()));
        namesFilesThatExist(lines);
        namesEveryTest(lines);
        checks.end("ReadmeTest");
    }

    private static void makeShownCalls(List<String> lines) throws ReflectiveOperationException {
        boolean inside = false;
        RankedPairs pairs = null;
        for (int i = 0; i < lines.size(); i++) {
            String line = lines.get(i);
            if (line.startsWith("```")) {
                inside = line.equals("```java");
                pairs = null;
            } else if (inside && line.equals(NEW_OBJECT)) {
                pairs = new RankedPairs();
            } else if (inside) {
                makeShownCall(pairs, "README.md:" + (i + 1) + ": " + line, line);
            }
        }
    }

    // A line that is not understood counts as wrong: else a shown call could go unasked.
    private static void makeShownCall(RankedPairs pairs, String what, String line)
            throws ReflectiveOperationException {
        Matcher call = CALL.matcher(line);
        boolean understood = pairs != null && call.matches();
        checks.dueTrue(what + " (a call with its answer)", understood);
        if (!understood) {
            return;
        }
        Object[] given = numbers(call.group(2));
        Class<?>[] types = new Class<?>[given.length];
        Arrays.fill(types, int.class);
        Method method = RankedPairs.class.getMethod(call.group(1), types);
        int due = Integer.parseInt(call.group(3));
        checks.due(what, due, (int) method.invoke(pairs, given));
        shown.add(method.getName());
    }

    private static Object[] numbers(String list) {
        if (list.isEmpty()) {
            return new Object[0];
        }
        return Arrays.stream(list.split(", ")).map(Integer::valueOf).toArray();
    }

    private static Set<String> face() {
        Set<String> names = new TreeSet<>();
        for (Method method : RankedPairs.class.getMethods()) {
            if (method.getDeclaringClass() == RankedPairs.class) {
                names.add(method.getName());
            }
        }
        return names;
    }

    private static void namesFilesThatExist(List<String> lines) {
        for (String line : lines) {
            Matcher file = OWN_FILE.matcher(line);
            while (file.find()) {
                checks.dueTrue(file.group() + " exists", Files.exists(Path.of(file.group())));
            }
        }
    }

    private static void namesEveryTest(List<String> lines) throws IOException {
        String text = String.join("\n", lines);
        try (var files = Files.list(Path.of("src/test/java"))) {
            files.forEach(file ->
                    checks.dueTrue("README.md names " + file, text.contains(file.toString())));
        }
    }
}
