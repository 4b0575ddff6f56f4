import java.io.IOException;
import java.lang.reflect.InvocationTargetException;
import java.lang.reflect.Method;
import java.lang.reflect.Modifier;
import java.nio.file.Files;
import java.nio.file.Path;
import java.util.ArrayList;
import java.util.List;
import java.util.Set;
import java.util.TreeSet;
import java.util.regex.Matcher;
import java.util.regex.Pattern;
import java.util.stream.Stream;

/** README.md: makes the calls of its example and compares the answers; its helper for texts; its table of tests. */
public final class ReadmeTest {
    private static final Check CHECK = new Check();
    private static final String MADE = "FieldStones stones = new FieldStones();";
    private static final Pattern FED = Pattern.compile("feed\\(stones, \"([^\"]*)\"\\);");
    private static final Pattern ASKED = Pattern.compile("stones\\.(\\w+)\\(([^)]*)\\); *// (throws \\w+|-?\\d+)\\b.*");
    private static final String[] HELPERS = {"Check", "Tale", "Model", "Texts", "Dice"};

    private static FieldStones stones;
    private static final Set<String> SHOWN = new TreeSet<>();

    public static void main(String[] args) throws IOException {
        List<String> page = Files.readAllLines(Path.of("README.md"));
        List<List<String>> blocks = javaBlocks(page);
        CHECK.is("README: how texts are fed, and an example", 2, blocks.size());
        helper(blocks.get(0));
        for (String line : blocks.get(1)) {
            pass(line.strip());
        }
        CHECK.isTrue("README: every call is shown, of these some: " + SHOWN, SHOWN.equals(face()));
        table(page);
        CHECK.end();
    }

    private static List<List<String>> javaBlocks(List<String> page) {
        List<List<String>> blocks = new ArrayList<>();
        boolean inside = false;
        for (String line : page) {
            if (line.startsWith("```")) {
                inside = line.equals("```java");
                if (inside) {
                    blocks.add(new ArrayList<>());
                }
            } else if (inside) {
                blocks.get(blocks.size() - 1).add(line);
            }
        }
        return blocks;
    }

    /** The tests feed their texts by the very lines that the page shows. */
    private static void helper(List<String> lines) throws IOException {
        String own = Files.readString(Path.of("src/test/java/Check.java")).replaceAll("\\s+", "");
        String shown = String.join("", lines).replaceAll("\\s+", "");
        CHECK.isTrue("README: feed is shown", shown.startsWith("staticvoidfeed(") && own.contains(shown));
    }

    /** A line of another form would tell something that no test has looked at. */
    private static void pass(String line) {
        Matcher fed = FED.matcher(line);
        Matcher asked = ASKED.matcher(line);
        if (line.equals(MADE)) {
            stones = new FieldStones();
        } else if (fed.matches()) {
            Check.feed(stones, fed.group(1));
        } else if (asked.matches()) {
            String got = answer(asked.group(1), asked.group(2).split(" *, *"));
            CHECK.isTrue("README: " + line + ": got " + got, got.equals(asked.group(3)));
        } else {
            CHECK.isTrue("README: this can't be made: " + line, line.isEmpty() || line.startsWith("//"));
        }
    }

    private static String answer(String name, String[] arguments) {
        SHOWN.add(name);
        for (Method method : FieldStones.class.getMethods()) {
            if (method.getName().equals(name)) {
                try {
                    return method.invoke(stones, numbers(method, arguments)).toString();
                } catch (InvocationTargetException e) {
                    return "throws " + e.getCause().getClass().getSimpleName();
                } catch (IllegalAccessException e) {
                    return "no public call";
                }
            }
        }
        return "no such call";
    }

    private static Object[] numbers(Method method, String[] arguments) {
        Object[] numbers = new Object[method.getParameterCount()];
        for (int i = 0; i < numbers.length; i++) {
            numbers[i] = Long.decode(arguments[i]).intValue();
        }
        return numbers;
    }

    private static Set<String> face() {
        Set<String> names = new TreeSet<>();
        for (Method method : FieldStones.class.getDeclaredMethods()) {
            if (Modifier.isPublic(method.getModifiers())) {
                names.add(method.getName());
            }
        }
        return names;
    }

    /** Each test of the project has a row, and the row names each helper and each file that the test uses. */
    private static void table(List<String> page) throws IOException {
        List<Path> tests;
        try (Stream<Path> files = Files.list(Path.of("src/test/java"))) {
            tests = files.filter(file -> file.toString().endsWith("Test.java")).sorted().toList();
        }
        int rows = 0;
        for (String line : page) {
            rows += line.matches("\\| `\\w+Test` \\|.*") ? 1 : 0;
        }
        CHECK.is("README: a row for each test", tests.size(), rows);
        for (Path test : tests) {
            String name = test.getFileName().toString().replace(".java", "");
            row(name, rowOf(page, name), Files.readString(test));
        }
    }

    private static String rowOf(List<String> page, String name) {
        for (String line : page) {
            if (line.startsWith("| `" + name + "` |")) {
                return line;
            }
        }
        return "";
    }

    private static void row(String name, String row, String source) {
        CHECK.isTrue("README: " + name + " stands in the table", !row.isEmpty());
        String needs = row.replaceAll("\\| *$", "").replaceAll(".*\\|", "");
        for (String helper : HELPERS) {
            boolean used = Pattern.compile("\\b" + helper + "[ .]").matcher(source).find();
            CHECK.isTrue("README: " + name + " needs " + helper, used == needs.contains("`" + helper + "`"));
        }
        Matcher file = Pattern.compile("Path\\.of\\(\"([^\"]*)\"\\)").matcher(source);
        while (file.find()) {
            String folder = file.group(1).replaceAll("(src/test/java).*", "$1");
            CHECK.isTrue("README: " + name + " needs " + folder, needs.contains("`" + folder + "`"));
        }
    }
}
