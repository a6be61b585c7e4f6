import java.io.IOException;
import java.lang.reflect.Method;
import java.lang.reflect.Modifier;
import java.nio.file.Files;
import java.nio.file.Path;
import java.util.List;
import java.util.regex.Matcher;
import java.util.regex.Pattern;
import java.util.stream.Collectors;
import java.util.stream.Stream;

/** README.md says how to use the class: its example answers what stands behind it, and no call or test is left out. */
public final class ReadmeTest {
    private static final Pattern CALL = Pattern.compile("wires\\.(\\w+\\([^)]*\\));\\s*// (-?\\d+)");

    public static void main(String[] args) throws IOException {
        String page = Files.readString(Path.of("README.md"));
        example(page);
        calls(page);
        tests(page);
        Script.finish();
    }

    private static void example(String page) {
        ClockWires wires = new ClockWires();
        List<String> lines = page.lines().filter(line -> line.startsWith("wires.")).collect(Collectors.toList());
        Script.due("an example of some lines", lines.size() > 5 ? 1 : 0, 1);
        for (String line : lines) {
            Matcher found = CALL.matcher(line);
            boolean told = found.lookingAt();
            Script.due("README.md tells the answer of " + line, told ? 1 : 0, 1);
            if (told) {
                Script.due("README.md: " + line, Script.call(wires, found.group(1)), Long.parseLong(found.group(2)));
            }
        }
    }

    private static void calls(String page) {
        String tables = page.lines().filter(line -> line.startsWith("| ")).collect(Collectors.joining("\n"));
        for (Method method : ClockWires.class.getDeclaredMethods()) {
            if (Modifier.isPublic(method.getModifiers())) {
                Script.due("README.md has " + method.getName(), tables.contains("`" + method.getName() + "(") ? 1 : 0, 1);
            }
        }
    }

    private static void tests(String page) throws IOException {
        try (Stream<Path> files = Files.list(Path.of("src/test/java"))) {
            for (String name : files.map(file -> file.getFileName().toString()).sorted().collect(Collectors.toList())) {
                if (name.endsWith("Test.java")) {
                    String test = "`" + name.substring(0, name.length() - 5) + "`";
                    Script.due("README.md has " + test, page.contains(test) ? 1 : 0, 1);
                }
            }
        }
    }
}
