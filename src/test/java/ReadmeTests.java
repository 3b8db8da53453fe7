import java.io.IOException;
import java.lang.reflect.Method;
import java.lang.reflect.Modifier;
import java.nio.file.DirectoryStream;
import java.nio.file.Files;
import java.nio.file.Path;
import java.util.Set;
import java.util.TreeSet;
import java.util.regex.Matcher;
import java.util.regex.Pattern;

/** What README.md says of an answer is what the class answers, and it names every method and every test. */
public final class ReadmeTests {
    private static final Pattern BLOCK = Pattern.compile("(?s)```java\n(.*?)```");
    private static final Pattern CALL =
        Pattern.compile("desk\\.(\\w+)\\(((?:'.'|[^'()])*)\\); +// (-?[0-9]+|[A-Z]+)(?:: .+)?");
    private static final String BEGIN = "WidenDesk desk = new WidenDesk();";
    private static int wrong = 0;

    private static void due(String what, Object got, Object want) {
        if (!got.equals(want)) {
            wrong++;
            System.out.println(what + " is " + got + ", due is " + want);
        }
    }

    /** Runs one example; answers how many calls it has. */
    private static int run(String block, Set<String> called) {
        String[] lines = block.split("\n");
        due("the first line of an example", lines[0], BEGIN);
        WidenDesk desk = new WidenDesk();
        for (int i = 1; i < lines.length; i++) {
            Matcher call = CALL.matcher(lines[i]);
            if (call.matches()) {
                called.add(call.group(1));
                due(lines[i], Calls.answer(desk, call.group(1), call.group(2)), Calls.number(call.group(3)));
            } else {
                due("a call with its answer", lines[i], "such a line");
            }
        }
        return lines.length - 1;
    }

    private static void examples(String readme) {
        Set<String> called = new TreeSet<>();
        int calls = 0;
        Matcher block = BLOCK.matcher(readme);
        while (block.find()) {
            calls += run(block.group(1), called);
        }
        Set<String> methods = new TreeSet<>();
        for (Method method : WidenDesk.class.getDeclaredMethods()) {
            if (Modifier.isPublic(method.getModifiers())) {
                methods.add(method.getName());
            }
        }
        due("the methods that the examples call", called, methods);
        System.out.println(calls + " calls of the examples");
    }

    private static void tests(String readme) throws IOException {
        try (DirectoryStream<Path> files = Files.newDirectoryStream(Path.of("src/test/java"), "*.java")) {
            for (Path file : files) {
                String name = file.getFileName().toString().replace(".java", "");
                due("README.md tells of " + name, readme.contains("`" + name + "`"), true);
            }
        }
        due("README.md tells of .ci/run", readme.contains("    .ci/run\n"), true);
    }

    public static void main(String[] args) throws IOException {
        String readme = Files.readString(Path.of("README.md"));
        examples(readme);
        tests(readme);
        System.out.println(wrong == 0 ? "README.md is as the class answers" : wrong + " things are not as due");
        if (wrong != 0) {
            System.exit(1);
        }
    }
}
