import java.io.IOException;
import java.lang.reflect.Method;
import java.lang.reflect.Modifier;
import java.nio.file.Files;
import java.nio.file.Path;
import java.util.Arrays;
import java.util.HashMap;
import java.util.List;
import java.util.Map;
import java.util.Set;
import java.util.TreeMap;
import java.util.TreeSet;
import java.util.regex.MatchResult;
import java.util.regex.Pattern;
import java.util.stream.Collectors;
import java.util.stream.Stream;

/** What README.md says of the class and of its tests is so. */
public final class ReadmeTest {
    private static final String NEW_OBJECT = "TapeSampler s = new TapeSampler();";
    private static final Pattern EXAMPLE = Pattern.compile("(?s)```java\n(.*?)```");
    private static final Pattern CALL = Pattern.compile("(?:int (\\w+) = )?s\\.(\\w+)\\(([^)]*)\\); +// (-?\\d+)(?:: .+)?");
    private static final Pattern ROW = Pattern.compile("(?m)^\\| `(\\w+)\\(([^)]*)\\)` \\|(.*)\\|$");
    private static final Pattern PROMISE = Pattern.compile("(?m)^`int (\\w+)\\(([^)]*)\\)`: (.*)$");
    private static final Pattern REFUSED = Pattern.compile("-\\d(?=:| if)");
    private static final Pattern TEST = Pattern.compile("`(\\w+Test)`");

    public static void main(String[] args) throws IOException {
        String readme = Files.readString(Path.of("README.md"));
        String document = Files.readString(Path.of("../shared/DOC.md"));
        List<MatchResult> examples = all(EXAMPLE, readme);
        Due.is("README.md: examples", examples.size(), 2);
        for (MatchResult example : examples) {
            runExample(example.group(1));
        }
        rowsAreTheFace(all(ROW, readme));
        rowsRefuseAsPromised(all(ROW, readme), all(PROMISE, document));
        testsAreNamed(all(TEST, readme));
        Due.end();
    }

    private static List<MatchResult> all(Pattern pattern, String text) {
        return pattern.matcher(text).results().toList();
    }

    private static void runExample(String example) {
        TapeSampler s = new TapeSampler();
        Map<String, Integer> names = new HashMap<>();
        List<String> lines = example.lines().filter(line -> !line.isBlank()).toList();
        Due.holds("README.md: an example begins with a new object", lines.get(0).equals(NEW_OBJECT));
        for (String line : lines.subList(1, lines.size())) {
            List<MatchResult> found = all(CALL, line);
            boolean whole = found.size() == 1 && found.get(0).group().equals(line);
            Due.holds("README.md: a call with its answer: " + line, whole);
            if (whole) {
                runLine(found.get(0), s, names);
            }
        }
    }

    private static void runLine(MatchResult line, TapeSampler s, Map<String, Integer> names) {
        int[] args = words(line.group(3)).mapToInt(word -> number(word, names)).toArray();
        int answer = new Call(line.group(2), args).on(s);
        Due.is("README.md: " + line.group(), answer, Integer.parseInt(line.group(4)));
        if (line.group(1) != null) {
            names.put(line.group(1), answer);
        }
    }

    private static int number(String word, Map<String, Integer> names) {
        return names.containsKey(word) ? names.get(word) : Integer.parseInt(word);
    }

    private static Stream<String> words(String list) {
        return Arrays.stream(list.split(", ")).filter(word -> !word.isEmpty());
    }

    private static void rowsAreTheFace(List<MatchResult> rows) {
        Set<String> face = Arrays.stream(TapeSampler.class.getDeclaredMethods())
            .filter(method -> Modifier.isPublic(method.getModifiers()))
            .map(ReadmeTest::signature)
            .collect(Collectors.toCollection(TreeSet::new));
        Set<String> named = rows.stream()
            .map(row -> row.group(1) + " " + words(row.group(2)).count())
            .collect(Collectors.toCollection(TreeSet::new));
        Due.holds("README.md: the tables name every call: " + named, named.equals(face));
        Due.is("README.md: rows", rows.size(), face.size());
    }

    private static String signature(Method method) {
        return method.getName() + " " + method.getParameterCount();
    }

    private static void rowsRefuseAsPromised(List<MatchResult> rows, List<MatchResult> promises) {
        Due.holds("README.md: refusals are those of the document", refusals(rows).equals(refusals(promises)));
    }

    /** The names of the arguments too, as a row speaks of them. */
    private static Map<String, List<String>> refusals(List<MatchResult> calls) {
        Map<String, List<String>> refusals = new TreeMap<>();
        for (MatchResult call : calls) {
            String name = call.group(1) + "(" + call.group(2).replace("int ", "") + ")";
            refusals.put(name, all(REFUSED, call.group(3)).stream().map(MatchResult::group).toList());
        }
        return refusals;
    }

    private static void testsAreNamed(List<MatchResult> named) throws IOException {
        Set<String> names = named.stream().map(one -> one.group(1)).collect(Collectors.toCollection(TreeSet::new));
        Set<String> there;
        try (Stream<Path> files = Files.list(Path.of("src/test/java"))) {
            there = files.map(file -> file.getFileName().toString())
                .filter(name -> name.endsWith("Test.java"))
                .map(name -> name.replace(".java", ""))
                .collect(Collectors.toCollection(TreeSet::new));
        }
        Due.holds("README.md: every test is named: " + names + " of " + there, names.equals(there));
    }
}
