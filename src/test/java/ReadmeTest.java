import java.io.IOException;
import java.lang.reflect.Method;
import java.lang.reflect.Modifier;
import java.nio.file.Files;
import java.nio.file.Path;
import java.util.Arrays;
import java.util.Set;
import java.util.TreeSet;
import java.util.regex.Matcher;
import java.util.regex.Pattern;
import java.util.stream.Collectors;

/** README.md against the class and the tests as they stand; run from the root. */
public final class ReadmeTest {
    private static final Pattern CALL = Pattern.compile("(?m)^x\\.(\\w+)\\(([0-9, ]*)\\); +// (-?\\d+)\\b");
    private static final Check check = new Check();

    public static void main(String[] args) throws IOException, ReflectiveOperationException {
        String readme = Files.readString(Path.of("README.md"));
        example(readme);
        calls(readme);
        tests(readme);
        check.end();
    }

    /** Each call of the example, one behind the other, answers what its comment begins with. */
    private static void example(String readme) throws ReflectiveOperationException {
        Matcher camp = Pattern.compile("String camp = \"([^\"]*)\";").matcher(readme);
        check.due("README.md has a CAMP", camp.find() ? 1 : 0, 1);
        HillSeer x = new HillSeer();
        Check.write(x, 0, camp.group(1));
        Matcher call = CALL.matcher(readme);
        int made = 0;
        while (call.find()) {
            Object[] values = Arrays.stream(call.group(2).split(", ")).filter(v -> !v.isEmpty())
                    .map(Integer::valueOf).toArray();
            Class<?>[] types = new Class<?>[values.length];
            Arrays.fill(types, int.class);
            Object answer = HillSeer.class.getMethod(call.group(1), types).invoke(x, values);
            check.due(call.group(), ((Number) answer).longValue(), Long.parseLong(call.group(3)));
            made++;
        }
        check.due("calls of the example", made, 15);
    }

    private static void calls(String readme) {
        Set<String> named = new TreeSet<>();
        for (String line : section(readme, "### The calls").split("\n")) {
            if (line.startsWith("| `") && !line.contains("` -")) {
                named.addAll(Arrays.asList(line.split("\\|")[1].replace('`', ' ').trim().split(" +")));
            }
        }
        Set<String> face = Arrays.stream(HillSeer.class.getDeclaredMethods())
                .filter(m -> Modifier.isPublic(m.getModifiers())).map(Method::getName).collect(Collectors.toSet());
        check.due("calls that README.md names: " + named, named.equals(face) ? 1 : 0, 1);
    }

    private static void tests(String readme) throws IOException {
        Set<String> named = new TreeSet<>();
        Matcher row = Pattern.compile("(?m)^\\| (\\w+Test) \\|").matcher(readme);
        while (row.find()) {
            named.add(row.group(1));
        }
        Set<String> there = new TreeSet<>();
        try (var files = Files.list(Path.of("src/test/java"))) {
            files.map(file -> file.getFileName().toString()).filter(name -> name.endsWith("Test.java"))
                    .forEach(name -> there.add(name.replace(".java", "")));
        }
        check.due("tests that README.md names " + named + " of " + there, named.equals(there) ? 1 : 0, 1);
    }

    private static String section(String readme, String heading) {
        int from = Math.max(0, readme.indexOf(heading));
        int to = readme.indexOf("\n## ", from);
        return readme.substring(from, to < 0 ? readme.length() : to);
    }
}
