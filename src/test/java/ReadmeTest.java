import java.io.IOException;
import java.lang.reflect.Method;
import java.lang.reflect.Modifier;
import java.nio.file.DirectoryStream;
import java.nio.file.Files;
import java.nio.file.Path;
import java.util.TreeSet;
import java.util.regex.Matcher;
import java.util.regex.Pattern;

/** README.md tells nothing that is not so: its calls, its texts, and what it names. */
public final class ReadmeTest {
    private static final Check CHECK = new Check("ReadmeTest");
    private static final Pattern BLOCK = Pattern.compile("(?ms)^```(\\w+)\n(.*?)^```$");
    private static final Pattern CALL = Pattern.compile("tree\\.(\\w+)\\(([^)]*)\\); +// (-?\\w+)(: .*)?");
    private static final Pattern TEXT = Pattern.compile("storeText\\(tree, \"([^\"]*)\"\\); +// (-?\\w+)(: .*)?");

    private static PairTree tree;

    public static void main(String[] args) throws IOException, ReflectiveOperationException {
        String page = Files.readString(Path.of("README.md"));
        TreeSet<String> called = new TreeSet<>();
        Matcher block = BLOCK.matcher(page);
        int blocks = 0;
        while (block.find()) {
            blocks++;
            if (block.group(1).equals("text")) {
                CHECK.due("a text of the page: " + block.group(2), Check.storeText(new PairTree(), block.group(2)), 2);
            } else if (block.group(2).startsWith("PairTree tree")) {
                runOf(block.group(2), called);
            } else if (block.group(1).equals("java")) {
                standsInCheck(block.group(2));
            }
        }
        CHECK.due("blocks of the page", blocks, 7);
        CHECK.due("kinds of calls in the run", called.size() > 30, true);
        namesAllCalls(page);
        namesAllTests(page);
        CHECK.close();
    }

    private static void runOf(String lines, TreeSet<String> called) throws ReflectiveOperationException {
        for (String line : lines.split("\n")) {
            Matcher call = CALL.matcher(line);
            Matcher text = TEXT.matcher(line);
            if (line.equals("PairTree tree = new PairTree();")) {
                tree = new PairTree();
            } else if (text.matches()) {
                CHECK.due(line, Check.storeText(tree, text.group(1)), Integer.parseInt(text.group(2)));
            } else if (call.matches()) {
                called.add(call.group(1));
                String answer = String.valueOf(answerOf(call.group(1), call.group(2)));
                CHECK.due(line + " answered " + answer, answer.equals(call.group(3)), true);
            } else {
                CHECK.due("a line that is no call: " + line, false, true);
            }
        }
    }

    private static Object answerOf(String name, String words) throws ReflectiveOperationException {
        String[] given = words.isEmpty() ? new String[0] : words.split(", ");
        for (Method method : PairTree.class.getDeclaredMethods()) {
            if (method.getName().equals(name) && Modifier.isPublic(method.getModifiers())) {
                Class<?>[] types = method.getParameterTypes();
                Object[] numbers = new Object[types.length];
                for (int i = 0; i < types.length && types.length == given.length; i++) {
                    numbers[i] = types[i] == int.class ? (Object) Integer.valueOf(given[i]) : (Object) Boolean.valueOf(given[i]);
                }
                return method.invoke(tree, numbers);
            }
        }
        return "no such call";
    }

    /** The functions that the page shows are those of Check.java, each as it stands there. */
    private static void standsInCheck(String functions) throws IOException {
        String check = Files.readString(Path.of("src/test/java/Check.java")).replaceAll("\\s+", " ");
        for (String function : functions.split("\n\n")) {
            CHECK.due("stands in Check.java: " + function, check.contains(function.replaceAll("\\s+", " ").trim()), true);
        }
    }

    private static void namesAllCalls(String page) {
        int calls = 0;
        for (Method method : PairTree.class.getDeclaredMethods()) {
            if (Modifier.isPublic(method.getModifiers())) {
                Pattern row = Pattern.compile("(?m)^\\| [a-z ]+ \\| .*`" + method.getName() + "`.* \\|$");
                CHECK.due("the page names " + method.getName(), row.matcher(page).find(), true);
                calls++;
            }
        }
        CHECK.due("calls", calls, 49);
    }

    private static void namesAllTests(String page) throws IOException {
        int tests = 0;
        try (DirectoryStream<Path> files = Files.newDirectoryStream(Path.of("src/test/java"), "*Test.java")) {
            for (Path file : files) {
                String name = file.getFileName().toString().replace(".java", "");
                CHECK.due("the page names " + name, page.contains("\n| " + name + " | "), true);
                tests++;
            }
        }
        CHECK.due("tests that the page names", page.split("\n\\| \\w+Test \\| ", -1).length - 1, tests);
        CHECK.due("the page tells how to run them", page.contains("\n.ci/run\n"), true);
        CHECK.due("that can be run", Files.isExecutable(Path.of(".ci/run")), true);
    }
}
