import java.io.IOException;
import java.lang.reflect.Method;
import java.lang.reflect.Modifier;
import java.nio.charset.StandardCharsets;
import java.nio.file.Files;
import java.nio.file.Path;
import java.util.List;
import java.util.TreeSet;
import java.util.regex.Matcher;
import java.util.regex.Pattern;
import java.util.stream.Stream;

/** README.md tells of the class what is so: one who has only that page is not led astray. */
public final class ReadmeTest {
    private static final Pattern CALL = Pattern.compile("x\\.(\\w+\\([^;]*\\));\\s+// (-?\\d+)(: .*)?");
    private static final Pattern TEXT = Pattern.compile("String text = \"([^\"]*)\";");

    public static void main(String[] args) throws IOException {
        String page = Files.readString(Path.of("README.md"), StandardCharsets.UTF_8);
        example(page.substring(page.indexOf("```java\n") + 8, page.lastIndexOf("```")));
        calls(page);
        refusals(page);
        tests(page);
        Due.end();
    }

    /** Each line of the example is a call that answers so, or one of those that feed a text. */
    private static void example(String code) {
        List<String> others = List.of("", "NextHouseUp x = new NextHouseUp();", "}",
            "for (int i = 0; i < text.length(); i++) {");
        Run run = new Run();
        String text = "";
        int calls = 0;
        for (String line : code.split("\n")) {
            Matcher call = CALL.matcher(line);
            Matcher told = TEXT.matcher(line);
            if (call.matches()) {
                run.due(call.group(1), Long.parseLong(call.group(2)));
                calls++;
            } else if (told.matches()) {
                text = told.group(1);
            } else if (line.trim().equals("x.feed(text.charAt(i));")) {
                run.feed(text);
            } else {
                Due.due("a line of the example that no test runs: " + line, others.contains(line));
            }
        }
        Due.due("the example makes calls", calls > 20);
    }

    /** The table of calls has each call of the class, with as many numbers as it takes, and no other. */
    private static void calls(String page) {
        TreeSet<String> told = new TreeSet<>();
        Matcher rows = Pattern.compile("(?m)^\\| `(\\w+)\\(([^)]*)\\)` \\|").matcher(page);
        while (rows.find()) {
            int numbers = rows.group(2).isEmpty() ? 0 : rows.group(2).split(",").length;
            Due.due("told once: " + rows.group(), told.add(rows.group(1) + " " + numbers));
        }
        TreeSet<String> face = new TreeSet<>();
        for (Method method : NextHouseUp.class.getDeclaredMethods()) {
            if (Modifier.isPublic(method.getModifiers())) {
                face.add(method.getName() + " " + method.getParameterCount());
            }
        }
        Due.due("the calls that are told: " + told, told.equals(face));
    }

    private static void refusals(String page) {
        Due.due("BAD", page.contains("| " + NextHouseUp.BAD + " | `BAD` |"));
        Due.due("STATE", page.contains("| " + NextHouseUp.STATE + " | `STATE` |"));
        Due.due("FULL", page.contains("| " + NextHouseUp.FULL + " | `FULL` |"));
        Due.due("NO", page.contains("| " + NextHouseUp.NO + " | `NO` |"));
        Due.due("NONE", page.contains("`NONE` (" + NextHouseUp.NONE + ")"));
    }

    /** Each test and each helper is told of. */
    private static void tests(String page) throws IOException {
        try (Stream<Path> files = Files.list(Path.of("src/test/java"))) {
            for (Path file : files.sorted().toList()) {
                String name = file.getFileName().toString().replace(".java", "");
                Due.due("told of: " + name, page.contains(name) || name.startsWith("BoundsOf"));
            }
        }
    }
}
