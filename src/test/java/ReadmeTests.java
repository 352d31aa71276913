import java.io.IOException;
import java.lang.reflect.Method;
import java.nio.file.Files;
import java.nio.file.Path;
import java.util.Arrays;
import java.util.Set;
import java.util.TreeSet;
import java.util.regex.Matcher;
import java.util.regex.Pattern;

/** README.md says how to use the class: its calls answer what it says, it names every call, and every test. */
final class ReadmeTests {
    private static final Pattern TOWER = Pattern.compile("String tower = \"([^\"]*)\";");
    private static final Pattern CALL = Pattern.compile("(?m)^stairs\\.(\\w+)\\(([-0-9, ]*)\\); +// (-?[0-9]+): \\S+");
    private static final Check CHECK = new Check("readme");

    public static void main(String[] args) throws IOException {
        Path root = Path.of(System.getProperty("pairstairs.root", "."));
        String readme = Files.readString(root.resolve("README.md"));
        String example = readme.substring(readme.indexOf("```java"), readme.indexOf("```\n", readme.indexOf("```java")));
        theExampleAnswersSo(example);
        everyCallIsNamed(readme.substring(readme.indexOf("| for | calls |"), readme.indexOf("## Tests")));
        everyTestIsNamed(readme.substring(readme.indexOf("## Tests")), root);
        CHECK.end();
    }

    private static void theExampleAnswersSo(String example) {
        Probe stairs = new Probe(CHECK);
        Matcher tower = TOWER.matcher(example);
        CHECK.holds("a TOWER in the example", tower.find());
        stairs.write(0, tower.group(1));
        Matcher call = CALL.matcher(example);
        int many = 0;
        while (call.find()) {
            int[] arguments = Arrays.stream(call.group(2).split(", ")).filter(a -> !a.isEmpty()).mapToInt(Integer::parseInt).toArray();
            stairs.due(Long.parseLong(call.group(3)), call.group(1), arguments);
            many++;
        }
        CHECK.due("calls with what they answer", many, example.split("//").length - 1);
        CHECK.holds("some calls are told", many > 10);
    }

    private static void everyCallIsNamed(String table) {
        Set<String> named = new TreeSet<>();
        Matcher name = Pattern.compile("`([a-z]+)`").matcher(table.substring(0, table.indexOf("\n\n")));
        while (name.find()) {
            named.add(name.group(1));
        }
        Set<String> face = new TreeSet<>();
        for (Method method : PairStairs.class.getMethods()) {
            if (method.getDeclaringClass() == PairStairs.class) {
                face.add(method.getName());
            }
        }
        CHECK.holds("README's calls " + named + " are " + face, named.equals(face));
    }

    private static void everyTestIsNamed(String tests, Path root) {
        String[] files = root.resolve("src/test/java").toFile().list();
        CHECK.holds("tests are there", files != null && files.length > 0);
        for (String file : files == null ? new String[0] : files) {
            String name = file.replace(".java", "");
            CHECK.holds(name + " is named", !name.endsWith("Tests") || tests.contains("`" + name + "`"));
        }
    }

    private ReadmeTests() {
    }
}
